/** The boundary cases of THE ORDER, THE RING and THE DEAN: promises 17 to 19. */
public final class OrdersEdgesTest {
    private static final int NONE = ProtocolDesk.NONE;
    private static final int LEAST = Integer.MIN_VALUE;
    private static final int GREATEST = Integer.MAX_VALUE;
    private static final Check check = new Check();

    public static void main(String[] args) {
        ofAllWhoAreThere();
        leastNumbers();
        nobodyLeftIsAhead();
        ringsOfAllSizes();
        ringWalk();
        ringOfThoseLeft();
        orderPlaces();
        ringPlaces();
        deanKinds();
        deanLikeOnes();
        check.finish();
    }

    private static ProtocolDesk guests(int n) {
        ProtocolDesk desk = new ProtocolDesk();
        desk.state(0, 0);
        for (int p = 0; p < n; p++) {
            desk.person(0, 2, p % 10, p, 0);
        }
        return desk;
    }

    private static void due(String what, ProtocolDesk desk, int... places) {
        for (int i = 0; i < places.length; i++) {
            check.same(what + ", place " + i, desk.order(3, 5, i), places[i]);
        }
        check.same(what + ", no more", desk.order(3, 5, places.length), NONE);
    }

    private static void dueRing(String what, ProtocolDesk desk, int... ring) {
        for (int i = 0; i < ring.length; i++) {
            check.same(what + ", ring " + i, desk.ring(3, 5, i), ring[i]);
        }
        check.same(what + ", no more", desk.ring(3, 5, ring.length), NONE);
    }

    private static void ofAllWhoAreThere() {
        check.sentence(0, "THE ORDER of an OCCASION on a day, of all who are there");
        due("no person", new ProtocolDesk());
        due("one", guests(1), 0);
        ProtocolDesk desk = guests(3);
        due("three", desk, 0, 1, 2);
        desk.there(0, 0);
        due("without the first", desk, 1, 2);
        desk.there(2, 0);
        due("without the last", desk, 1);
        desk.there(1, 0);
        due("nobody is there", desk);
        desk.there(2, 1);
        due("the last comes", desk, 2);
        ProtocolDesk all = guests(20);
        Scene.rule(all, "on 3 since down");
        int[] turned = new int[20];
        for (int p = 0; p < 20; p++) {
            turned[p] = 19 - p;
        }
        due("twenty", all, turned);
        dueRing("twenty", all);
    }

    private static void leastNumbers() {
        check.sentence(0, "again and again the least number of those of whom nobody left is AHEAD");
        ProtocolDesk desk = guests(4);
        desk.hand(3, 0);
        due("0 comes as soon as 3 is gone", desk, 1, 2, 3, 0);
        desk.hand(2, 1);
        due("1 waits for 2, 0 for 3", desk, 2, 1, 3, 0);
        desk.hand(1, 3);
        due("3 waits for 1", desk, 2, 1, 3, 0);
        dueRing("no ring", desk);
    }

    /** An absent one is ahead of nobody, nor does one who has gone before hold anyone back. */
    private static void nobodyLeftIsAhead() {
        check.sentence(0, "of whom nobody left is AHEAD");
        ProtocolDesk desk = guests(3);
        desk.hand(2, 0);
        due("2 is ahead of 0", desk, 1, 2, 0);
        desk.there(2, 0);
        due("2 is absent", desk, 0, 1);
        ProtocolDesk ring = guests(3);
        ring.hand(0, 1);
        ring.hand(1, 0);
        due("two cannot ring: the latest hand tells", ring, 1, 0, 2);
        dueRing("two cannot ring", ring);
    }

    private static ProtocolDesk ringOf(int n) {
        ProtocolDesk desk = guests(20);
        for (int p = 0; p < n; p++) {
            desk.hand(p, (p + 1) % n);
        }
        return desk;
    }

    private static void ringsOfAllSizes() {
        check.sentence(0, "if there is none such: the least number of those left, and THE RING is told");
        for (int n = 3; n <= 20; n++) {
            ProtocolDesk desk = ringOf(n);
            int[] places = new int[20];
            // those in no ring have nobody ahead of them
            for (int i = 0; i < 20; i++) {
                places[i] = i < 20 - n ? n + i : i - (20 - n);
            }
            due("a ring of " + n, desk, places);
            int[] ring = new int[n];
            for (int i = 0; i < n; i++) {
                ring[i] = (n - i) % n;
            }
            dueRing("a ring of " + n, desk, ring);
        }
    }

    private static void ringWalk() {
        check.sentence(0, "from that one on, always the least number of those left that are AHEAD of the one before, "
            + "till one comes again; what is from its first coming on.");
        ProtocolDesk desk = guests(5);
        desk.hand(4, 0);
        desk.hand(3, 0);
        desk.hand(3, 4);
        desk.hand(2, 3);
        desk.hand(1, 2);
        desk.hand(3, 1);
        // 0 is led by 3 (the least of 3, 4), 3 by 2, 2 by 1, 1 by 3
        due("0 first, then 1", desk, 0, 1, 2, 3, 4);
        dueRing("without the way to it", desk, 3, 2, 1);
        ProtocolDesk least = guests(5);
        least.hand(0, 1);
        least.hand(1, 2);
        least.hand(2, 0);
        least.hand(4, 0);
        least.hand(3, 4);
        least.hand(0, 3);
        dueRing("the least of those ahead, 2 and not 4", least, 0, 2, 1);
        least.there(2, 0);
        dueRing("of those left, 4", least, 0, 4, 3);
    }

    private static void ringOfThoseLeft() {
        check.sentence(18, "The i-th of THE RING that came first in THE ORDER, from its begin on.");
        ProtocolDesk desk = guests(7);
        desk.hand(1, 2);
        desk.hand(2, 3);
        desk.hand(3, 1);
        desk.hand(4, 5);
        desk.hand(5, 6);
        desk.hand(6, 4);
        due("two rings", desk, 0, 1, 2, 3, 4, 5, 6);
        dueRing("the first of two", desk, 1, 3, 2);
        desk.there(1, 0);
        due("the first one is none any more", desk, 0, 2, 3, 4, 5, 6);
        dueRing("then the second", desk, 4, 6, 5);
        desk.there(6, 0);
        dueRing("then none", desk);
        ProtocolDesk gone = guests(4);
        gone.hand(0, 1);
        gone.hand(1, 2);
        gone.hand(2, 1);
        gone.hand(2, 3);
        gone.hand(3, 1);
        due("0 has gone before and is not left", gone, 0, 2, 3, 1);
        gone.hand(1, 2);
        due("a ring of those left", gone, 0, 1, 2, 3);
        dueRing("it begins with 1", gone, 1, 3, 2);
    }

    private static ProtocolDesk fullRing() {
        return ringOf(20);
    }

    private static void orderPlaces() {
        check.sentence(17, "The PERSON at place i of THE ORDER. NONE.");
        check.range("i", Scene::busy, (d, i) -> d.order(0, 5, i), Check.edge(0, 2), Check.edge(4, 1), NONE);
        check.range("i of twenty", OrdersEdgesTest::fullRing, (d, i) -> d.order(0, 5, i), Check.edge(0, 0), Check.edge(19, 19), NONE);
        check.refused("nobody yet", ProtocolDesk::new, d -> d.order(0, 0, 0), NONE);
        check.refused("all are wrong", Scene::busy, d -> d.order(LEAST, LEAST, GREATEST), NONE);
        // by rank 2 has 1, 0 and 3 have 3, 5 has 4, 1 has 9; a hand tells 5 ahead of 0, and 4 is absent
        ProtocolDesk desk = Scene.busy();
        int[] places = {2, 3, 5, 0, 1};
        for (int i = 0; i < 5; i++) {
            check.same("place " + i, desk.order(0, 5, i), places[i]);
        }
        desk.there(3, 0);
        int[] without3 = {2, 5, 0, 1, NONE};
        for (int i = 0; i < 5; i++) {
            check.same("without 3, place " + i, desk.order(0, 5, i), without3[i]);
        }
    }

    private static void ringPlaces() {
        check.sentence(18, "NONE: none.");
        check.range("i", OrdersEdgesTest::fullRing, (d, i) -> d.ring(0, 5, i), Check.edge(0, 0), Check.edge(19, 1), NONE);
        check.refused("no ring", Scene::people, d -> d.ring(0, 0, 0), NONE);
        check.refused("nobody yet", ProtocolDesk::new, d -> d.ring(0, 0, 0), NONE);
        check.refused("all are wrong", OrdersEdgesTest::fullRing, d -> d.ring(LEAST, LEAST, GREATEST), NONE);
        ProtocolDesk desk = fullRing();
        desk.there(19, 0);
        check.same("a ring that lost one is none", desk.ring(0, 5, 0), NONE);
        check.same("nineteen are in order", desk.order(0, 5, 18), 18);
        check.same("no twentieth", desk.order(0, 5, 19), NONE);
    }

    /** One person of each kind, all with papers, since like days; 3 and 4 are of 0. */
    private static ProtocolDesk ofEachKind() {
        ProtocolDesk desk = new ProtocolDesk();
        desk.state(0, 0);
        for (int kind = 0; kind < 6; kind++) {
            desk.person(0, kind, 0, 100 - kind, 0);
            desk.paper(kind, 50);
        }
        return desk;
    }

    private static void deanKinds() {
        check.sentence(0, "THE DEAN: of ENVOYS and ELDERS that are there, with a PAPER");
        check.sentence(19, "THE DEAN. NONE.");
        check.refused("nobody yet", ProtocolDesk::new, ProtocolDesk::dean, NONE);
        ProtocolDesk desk = ofEachKind();
        check.same("the elder has the least since", desk.dean(), 5);
        desk.there(5, 0);
        check.same("absent: the envoy, no other kind", desk.dean(), 0);
        desk.there(0, 0);
        check.same("absent, too: none", desk.dean(), NONE);
        desk.there(5, 1);
        check.same("there again", desk.dean(), 5);
        desk.paper(5, 0);
        check.same("without a paper", desk.dean(), NONE);
        desk.paper(5, 99999999);
        check.same("the greatest paper is one", desk.dean(), 5);
        desk.paper(5, 1);
        check.same("the least paper is one", desk.dean(), 5);
    }

    private static void deanLikeOnes() {
        check.sentence(0, "the one with the least since, of like ones the least PAPER, then number.");
        ProtocolDesk desk = new ProtocolDesk();
        desk.state(0, 0);
        for (int p = 0; p < 20; p++) {
            desk.person(0, p % 2 == 0 ? 0 : 5, 9, 9999, 0);
            desk.paper(p, 99999999);
        }
        check.same("all are like: the least number", desk.dean(), 0);
        desk.paper(19, 99999998);
        check.same("the least paper, the last", desk.dean(), 19);
        desk.paper(7, 99999998);
        check.same("of like papers the least number", desk.dean(), 7);
        ProtocolDesk since = new ProtocolDesk();
        since.state(0, 0);
        since.person(0, 0, 0, 1, 0);
        since.person(0, 5, 9, 0, 0);
        since.paper(0, 1);
        since.paper(1, 99999999);
        check.same("since ahead of paper and number", since.dean(), 1);
    }
}

/** Promises 14 to 19. */
public final class OrdersTest {
    private static final int NONE = ProtocolDesk.NONE;
    private static final Check check = new Check();

    public static void main(String[] args) {
        whichGoes();
        hands();
        quarrels();
        refusals();
        order();
        ringFromTheFirst();
        ringBehindATail();
        firstOfTwoRings();
        ringOfTwenty();
        dean();
        check.finish();
    }

    private static ProtocolDesk guests(int n) {
        ProtocolDesk desk = new ProtocolDesk();
        desk.state(0, 0);
        for (int p = 0; p < n; p++) {
            desk.person(0, 2, p % 10, 100 - p, 0);
        }
        return desk;
    }

    private static void whichGoes() {
        ProtocolDesk desk = guests(2);
        check.same("14: no rule", desk.ahead(1, 5, 0, 1), 0);
        check.same("15: no rule", desk.why(1, 5, 0, 1), NONE);
        Scene.rule(desk, "on 1 rank up", 0, 10);
        Scene.rule(desk, "on * since up", 0, 20);
        Scene.rule(desk, "on * rank up", 0, 15);
        Scene.rule(desk, "on * kind up", 0, 30);
        Scene.rule(desk, "on 2 since up", 0, 30);
        Scene.rule(desk, "on 1 since up if a.rank>5", 0, 30);
        check.same("15: a digit ahead of *", desk.why(1, 5, 0, 1), 0);
        check.same("14: by it", desk.ahead(1, 5, 0, 1), 1);
        check.same("14: turned", desk.ahead(1, 5, 1, 0), -1);
        check.same("15: of like ones the greatest", desk.why(1, 10, 0, 1), 2);
        check.same("15: those in force", desk.why(1, 15, 0, 1), 1);
        check.same("14: by that", desk.ahead(1, 15, 0, 1), -1);
        check.same("15: those that decide", desk.why(1, 20, 0, 1), NONE);
        check.same("14: neither", desk.ahead(1, 20, 0, 1), 0);
        Scene.rule(desk, "on 1 since up", 0, 10);
        check.same("15: of like digits the greatest", desk.why(1, 5, 0, 1), 6);
        check.same("14: by this", desk.ahead(1, 5, 0, 1), -1);
    }

    private static void hands() {
        ProtocolDesk desk = guests(3);
        Scene.rule(desk, "on 1 rank up");
        desk.hand(1, 0);
        check.same("15: a hand", desk.why(1, 5, 0, 1), 100);
        check.same("14: a hand", desk.ahead(1, 5, 0, 1), -1);
        check.same("14: turned", desk.ahead(1, 5, 1, 0), 1);
        check.same("14: on all days", desk.ahead(9, Integer.MAX_VALUE, 1, 0), 1);
        check.same("15: other two", desk.why(1, 5, 0, 2), 0);
        desk.hand(0, 1);
        check.same("14: the latest hand", desk.ahead(1, 5, 0, 1), 1);
        check.same("16: with a hand no rule goes", desk.quarrel(1, 5, 0, 1), NONE);
    }

    private static void quarrels() {
        ProtocolDesk desk = guests(2);
        check.same("16: no rule", desk.quarrel(1, 5, 0, 1), NONE);
        Scene.rule(desk, "on * rank up");
        check.same("16: one rule", desk.quarrel(1, 5, 0, 1), NONE);
        Scene.rule(desk, "on * rank down", 0, 10);
        Scene.rule(desk, "on 1 since up", 0, 20);
        Scene.rule(desk, "on 1 rank up");
        Scene.rule(desk, "on 2 since up");
        check.same("16: the least one", desk.quarrel(1, 5, 0, 1), 1);
        check.same("16: turned", desk.quarrel(1, 5, 1, 0), 1);
        check.same("16: those in force", desk.quarrel(1, 10, 0, 1), 2);
        check.same("16: those of the occasion", desk.quarrel(1, 20, 0, 1), NONE);
        check.same("16: of another one", desk.quarrel(2, 20, 0, 1), 0);
    }

    private static void refusals() {
        ProtocolDesk desk = Scene.busy();
        int[][] wrong = {{10, 0, 0, 1}, {-1, 0, 0, 1}, {0, -1, 0, 1}, {0, 0, 6, 1}, {0, 0, 0, -1}, {0, 0, 1, 1}};
        for (int[] w : wrong) {
            check.same("14: refused", desk.ahead(w[0], w[1], w[2], w[3]), -2);
            check.same("15: refused", desk.why(w[0], w[1], w[2], w[3]), NONE);
            check.same("16: refused", desk.quarrel(w[0], w[1], w[2], w[3]), NONE);
        }
    }

    private static void order() {
        ProtocolDesk desk = guests(4);
        due("17: without rules by number", desk, 3, 0, 1, 2, 3);
        Scene.rule(desk, "on 3 rank down");
        due("17: by a rule", desk, 3, 3, 2, 1, 0);
        due("17: another occasion", desk, 4, 0, 1, 2, 3);
        desk.there(2, 0);
        due("17: those who are there", desk, 3, 3, 1, 0);
        desk.hand(0, 3);
        due("17: a ring of 0, 1 and 3", desk, 3, 0, 3, 1);
        check.same("17: occasion 10", desk.order(10, 5, 0), NONE);
        check.same("17: occasion -1", desk.order(-1, 5, 0), NONE);
        check.same("17: day -1", desk.order(3, -1, 0), NONE);
        check.same("17: place -1", desk.order(3, 5, -1), NONE);
        check.same("18: occasion 10", desk.ring(10, 5, 0), NONE);
        check.same("18: day -1", desk.ring(3, -1, 0), NONE);
        check.same("18: place -1", desk.ring(3, 5, -1), NONE);
        check.same("18: another occasion has none", desk.ring(4, 5, 0), NONE);
        ProtocolDesk full = guests(20);
        Scene.rule(full, "on * since up");
        for (int i = 0; i < 20; i++) {
            check.same("17: twenty", full.order(0, 0, i), 19 - i);
        }
        check.same("17: no more", full.order(0, 0, 20), NONE);
    }

    private static void ringFromTheFirst() {
        ProtocolDesk desk = guests(4);
        desk.hand(0, 1);
        desk.hand(1, 2);
        desk.hand(2, 0);
        desk.hand(0, 3);
        due("17: the least of a ring first", desk, 3, 0, 1, 2, 3);
        dueRing("18: each ahead of the one before", desk, 3, 0, 2, 1);
        desk.there(1, 0);
        due("17: without one of it", desk, 3, 2, 0, 3);
        dueRing("18: no ring", desk, 3);
    }

    /** 0 is led by 2 and 3, which are in a ring of 1, 2 and 3: 0 goes first though it is in none. */
    private static void ringBehindATail() {
        ProtocolDesk desk = guests(4);
        desk.hand(3, 0);
        desk.hand(2, 0);
        desk.hand(1, 2);
        desk.hand(2, 3);
        desk.hand(3, 1);
        due("17: the least number left", desk, 3, 0, 1, 2, 3);
        dueRing("18: from its first coming on", desk, 3, 2, 1, 3);
    }

    private static void firstOfTwoRings() {
        ProtocolDesk desk = guests(7);
        desk.hand(6, 0);
        desk.hand(1, 2);
        desk.hand(2, 3);
        desk.hand(3, 1);
        desk.hand(1, 4);
        desk.hand(4, 5);
        desk.hand(5, 6);
        desk.hand(6, 4);
        due("17: two rings", desk, 3, 0, 1, 2, 3, 4, 5, 6);
        dueRing("18: the first one", desk, 3, 1, 3, 2);
    }

    private static void ringOfTwenty() {
        ProtocolDesk desk = guests(20);
        int[] numbers = new int[20];
        int[] backwards = new int[20];
        for (int p = 0; p < 20; p++) {
            desk.hand(p, (p + 1) % 20);
            numbers[p] = p;
            backwards[p] = (20 - p) % 20;
        }
        due("17: twenty in a ring", desk, 3, numbers);
        dueRing("18: twenty in a ring", desk, 3, backwards);
    }

    private static void dean() {
        ProtocolDesk desk = Scene.people();
        check.same("19: an elder with the least since", desk.dean(), 5);
        desk.paper(5, 0);
        check.same("19: with a paper only", desk.dean(), 0);
        desk.paper(1, 8000);
        check.same("19: the least since", desk.dean(), 1);
        desk.there(1, 0);
        check.same("19: of those who are there", desk.dean(), 0);
        desk.paper(2, 1);
        desk.paper(3, 1);
        desk.paper(4, 1);
        check.same("19: no guest, consort, deputy", desk.dean(), 0);
        desk.person(0, 0, 0, 100, 0);
        desk.paper(6, 7000);
        check.same("19: of like ones the least number", desk.dean(), 0);
        desk.paper(6, 6999);
        check.same("19: of like ones the least paper", desk.dean(), 6);
        desk.person(0, 1, 0, 0, 0);
        desk.paper(7, 1);
        check.same("19: no acting one", desk.dean(), 6);
        desk.there(0, 0);
        desk.there(6, 0);
        check.same("19: nobody", desk.dean(), NONE);
    }

    private static void due(String what, ProtocolDesk desk, int o, int... places) {
        for (int i = 0; i < places.length; i++) {
            check.same(what + ", place " + i, desk.order(o, 5, i), places[i]);
        }
        check.same(what + ", no more", desk.order(o, 5, places.length), NONE);
    }

    private static void dueRing(String what, ProtocolDesk desk, int o, int... ring) {
        for (int i = 0; i < ring.length; i++) {
            check.same(what + ", place " + i, desk.ring(o, 5, i), ring[i]);
        }
        check.same(what + ", no more", desk.ring(o, 5, ring.length), NONE);
    }
}

/** Promises 1 to 7, and the constants of the face. */
public final class StatesAndPersonsTest {
    private static final int NONE = ProtocolDesk.NONE;
    private static final int BAD = ProtocolDesk.BAD;
    private static final int FULL = ProtocolDesk.FULL;
    private static final Check check = new Check();

    public static void main(String[] args) {
        constants();
        newObject();
        state();
        person();
        personRefusals();
        paper();
        there();
        split();
        about();
        check.finish();
    }

    private static void constants() {
        check.same("NONE", ProtocolDesk.NONE, -1);
        check.same("BAD", ProtocolDesk.BAD, -2);
        check.same("STATE", ProtocolDesk.STATE, -3);
        check.same("FULL", ProtocolDesk.FULL, -4);
    }

    private static void newObject() {
        ProtocolDesk desk = new ProtocolDesk();
        for (int what = 0; what < 8; what++) {
            check.same("1: count(" + what + ")", desk.count(what), 0);
        }
        check.same("1: about", desk.about(0, 0), NONE);
        check.same("1: dean", desk.dean(), NONE);
        check.same("1: order", desk.order(0, 0, 0), NONE);
        check.same("1: seat", desk.seat(0, 0), NONE);
        check.same("1: wipe", desk.wipe(), 0);
        check.same("1: an empty tape", desk.rule(0, 1), -10);
        check.same("1: within", desk.within(10), 10);
        check.same("1: talk", desk.talk(0, 7, 0), 0);
    }

    private static void state() {
        ProtocolDesk desk = new ProtocolDesk();
        check.same("2: the first", desk.state(0, 0), 0);
        check.same("2: the greatest numbers", desk.state(99, 7), 1);
        for (int s = 2; s < 10; s++) {
            check.same("2: state " + s, desk.state(5, 5), s);
        }
        check.same("2: an eleventh", desk.state(5, 5), FULL);
        check.same("2: BAD ahead of FULL", desk.state(100, 5), BAD);
        check.same("2: count", desk.count(0), 10);
        check.refused("2: name 100", Scene::busy, d -> d.state(100, 0), BAD);
        check.refused("2: name -1", Scene::busy, d -> d.state(-1, 0), BAD);
        check.refused("2: tongue 8", Scene::busy, d -> d.state(0, 8), BAD);
        check.refused("2: tongue -1", Scene::busy, d -> d.state(0, -1), BAD);
    }

    private static void person() {
        ProtocolDesk desk = new ProtocolDesk();
        desk.state(1, 1);
        check.same("3: an envoy", desk.person(0, 0, 9, 9999, 0), 0);
        check.same("3: an acting one", desk.person(0, 1, 0, 0, 0), 1);
        check.same("3: a guest", desk.person(0, 2, 4, 3, 0), 2);
        check.same("3: a consort of an envoy", desk.person(0, 3, 4, 3, 0), 3);
        check.same("3: a consort of a guest", desk.person(0, 3, 4, 3, 2), 4);
        check.same("3: a deputy of an envoy", desk.person(0, 4, 4, 3, 0), 5);
        check.same("3: an elder", desk.person(0, 5, 4, 3, 0), 6);
        check.same("3: it is there", desk.about(6, 7), 1);
        check.same("3: without a paper", desk.paper(6, 0), 0);
        for (int p = 7; p < 20; p++) {
            check.same("3: person " + p, desk.person(0, 2, 0, 0, 0), p);
        }
        check.same("3: a twenty-first", desk.person(0, 2, 0, 0, 0), FULL);
        check.same("3: BAD ahead of FULL", desk.person(0, 2, 0, 0, 1), BAD);
        check.same("3: NONE ahead of FULL", desk.person(1, 2, 0, 0, 0), NONE);
        check.same("3: count", desk.count(1), 20);
    }

    private static void personRefusals() {
        check.refused("3: no such state", Scene::busy, d -> d.person(3, 0, 0, 0, 0), NONE);
        check.refused("3: state -1", Scene::busy, d -> d.person(-1, 0, 0, 0, 0), NONE);
        check.refused("3: state ahead of kind", Scene::busy, d -> d.person(3, 6, 0, 0, 0), NONE);
        check.refused("3: consort of none", Scene::busy, d -> d.person(0, 3, 0, 0, 6), NONE);
        check.refused("3: deputy of none", Scene::busy, d -> d.person(0, 4, 0, 0, -1), NONE);
        check.refused("3: of none ahead of rank", Scene::busy, d -> d.person(0, 3, 10, 0, 6), NONE);
        check.refused("3: kind 6", Scene::busy, d -> d.person(0, 6, 0, 0, 0), BAD);
        check.refused("3: kind 6 of nobody", Scene::busy, d -> d.person(0, 6, 0, 0, 99), BAD);
        check.refused("3: kind -1", Scene::busy, d -> d.person(0, -1, 0, 0, 0), BAD);
        check.refused("3: rank 10", Scene::busy, d -> d.person(0, 0, 10, 0, 0), BAD);
        check.refused("3: rank -1", Scene::busy, d -> d.person(0, 0, -1, 0, 0), BAD);
        check.refused("3: rank of a consort", Scene::busy, d -> d.person(0, 3, 10, 0, 0), BAD);
        check.refused("3: since 10000", Scene::busy, d -> d.person(0, 0, 0, 10000, 0), BAD);
        check.refused("3: since -1", Scene::busy, d -> d.person(0, 0, 0, -1, 0), BAD);
        check.refused("3: an envoy of one", Scene::busy, d -> d.person(0, 0, 0, 0, 1), BAD);
        check.refused("3: an elder of nobody", Scene::busy, d -> d.person(0, 5, 0, 0, -1), BAD);
        check.refused("3: deputy of a guest", Scene::busy, d -> d.person(0, 4, 0, 0, 2), BAD);
        check.refused("3: deputy of a deputy", Scene::busy, d -> d.person(0, 4, 0, 0, 4), BAD);
        check.refused("3: consort of a consort", Scene::busy, d -> d.person(0, 3, 0, 0, 3), BAD);
        check.refused("3: consort of an elder", Scene::busy, d -> d.person(0, 3, 0, 0, 5), BAD);
    }

    private static void paper() {
        ProtocolDesk desk = Scene.people();
        check.same("4: none before", desk.paper(1, 1), 0);
        check.same("4: the greatest minute", desk.paper(1, 99999999), 1);
        check.same("4: taken away", desk.paper(1, 0), 99999999);
        check.same("4: none again", desk.paper(1, 5), 0);
        check.same("4: a consort's own", desk.paper(3, 44), 0);
        check.same("4: a consort's own, again", desk.paper(3, 45), 44);
        check.same("4: its field is the envoy's", desk.about(3, 2), 7000);
        check.refused("4: nobody", Scene::busy, d -> d.paper(6, 1), NONE);
        check.refused("4: -1", Scene::busy, d -> d.paper(-1, 1), NONE);
        check.refused("4: NONE ahead of BAD", Scene::busy, d -> d.paper(6, -1), NONE);
        check.refused("4: minute -1", Scene::busy, d -> d.paper(0, -1), BAD);
        check.refused("4: minute 100000000", Scene::busy, d -> d.paper(0, 100000000), BAD);
    }

    private static void there() {
        ProtocolDesk desk = Scene.busy();
        check.same("5: still there", desk.there(2, 1), 1);
        check.same("5: its seat", desk.seat(0, 0), 2);
        check.same("5: goes", desk.there(2, 0), 1);
        check.same("5: its seat is empty", desk.seat(0, 0), NONE);
        check.same("5: that of the other table, too", desk.seat(1, 1), NONE);
        check.same("5: another one's is not", desk.seat(0, 2), 0);
        check.same("5: is away", desk.there(2, 0), 0);
        check.same("5: comes", desk.there(2, 1), 0);
        check.same("5: its seat stays empty", desk.seat(0, 0), NONE);
        check.refused("5: nobody", Scene::busy, d -> d.there(6, 0), NONE);
        check.refused("5: NONE ahead of BAD", Scene::busy, d -> d.there(-1, 2), NONE);
        check.refused("5: is 2", Scene::busy, d -> d.there(2, 2), BAD);
        check.refused("5: is -1", Scene::busy, d -> d.there(2, -1), BAD);
    }

    private static void split() {
        ProtocolDesk desk = Scene.people();
        check.same("6: a new state", desk.split(0, 77, 6, 0b1011), 3);
        check.same("6: 0 is of it", desk.about(0, 5), 3);
        check.same("6: 3 is of it", desk.about(3, 5), 3);
        check.same("6: 1 was of another", desk.about(1, 5), 1);
        check.same("6: its name", desk.about(3, 3), 77);
        check.same("6: its tongue", desk.about(3, 6), 6);
        check.same("6: an empty set", desk.split(3, 0, 0, 0), 4);
        check.same("6: nobody moved", desk.about(0, 5), 3);
        check.same("6: the last person's bit", desk.split(2, 1, 1, 0b100000), 5);
        check.same("6: 5 moved", desk.about(5, 5), 5);
        check.same("6: 2 did not", desk.about(2, 5), 2);
        for (int s = 6; s < 10; s++) {
            check.same("6: state " + s, desk.split(0, 1, 1, 0), s);
        }
        check.same("6: FULL", desk.split(0, 1, 1, 0), FULL);
        check.same("6: BAD ahead of FULL", desk.split(0, 1, 1, 64), BAD);
        check.same("6: count", desk.count(0), 10);
        check.refused("6: no such state", Scene::busy, d -> d.split(3, 0, 0, 1), NONE);
        check.refused("6: NONE ahead of BAD", Scene::busy, d -> d.split(-1, 100, 0, 1), NONE);
        check.refused("6: name", Scene::busy, d -> d.split(0, 100, 0, 1), BAD);
        check.refused("6: tongue", Scene::busy, d -> d.split(0, 0, 8, 1), BAD);
        check.refused("6: a bit of nobody", Scene::busy, d -> d.split(0, 0, 0, 0b1000001), BAD);
        check.refused("6: the highest bit", Scene::busy, d -> d.split(0, 0, 0, Integer.MIN_VALUE), BAD);
        check.refused("6: all bits", Scene::busy, d -> d.split(0, 0, 0, -1), BAD);
    }

    private static void about() {
        ProtocolDesk desk = Scene.people();
        int[] envoy = {0, 3, 7000, 5, 100, 0, 0, 1, NONE};
        int[] envoyWithoutPaper = {0, 9, 99999999, 9, 50, 1, 1, 1, NONE};
        int[] guest = {2, 1, 99999999, 2, 10, 2, 2, 1, NONE};
        int[] consort = {3, 3, 7000, 5, 4, 0, 0, 1, 0};
        int[] deputy = {4, 9, 99999999, 9, 8, 1, 1, 1, 1};
        int[] elder = {5, 4, 900, 2, 5, 2, 2, 1, NONE};
        int[][] all = {envoy, envoyWithoutPaper, guest, consort, deputy, elder};
        for (int p = 0; p < 6; p++) {
            for (int what = 0; what < 9; what++) {
                check.same("7: about(" + p + ", " + what + ")", desk.about(p, what), all[p][what]);
            }
        }
        desk.paper(1, 12);
        check.same("7: rank with a paper", desk.about(1, 1), 2);
        check.same("7: a deputy has one more", desk.about(4, 1), 3);
        check.same("7: a deputy has a paper of its own", desk.about(4, 2), 99999999);
        desk.paper(0, 0);
        check.same("7: a consort's rank without a paper", desk.about(3, 1), 9);
        check.same("7: a consort's paper without one", desk.about(3, 2), 99999999);
        desk.person(0, 3, 0, 0, 2);
        check.same("7: the rank of a guest's consort", desk.about(6, 1), 1);
        desk.there(2, 0);
        check.same("7: absent", desk.about(2, 7), 0);
        check.same("7: what 9", desk.about(0, 9), NONE);
        check.same("7: what -1", desk.about(0, -1), NONE);
        check.same("7: nobody", desk.about(7, 0), NONE);
        check.same("7: -1", desk.about(-1, 0), NONE);
    }
}

/** Promises 29 to 33. */
public final class VisitsTest {
    private static final int NONE = ProtocolDesk.NONE;
    private static final int BAD = ProtocolDesk.BAD;
    private static final int FULL = ProtocolDesk.FULL;
    private static final Check check = new Check();

    public static void main(String[] args) {
        visit();
        fullOfVisits();
        card();
        owes();
        within();
        count();
        check.finish();
    }

    private static void visit() {
        ProtocolDesk desk = Scene.people();
        check.same("29: y owes", desk.visit(0, 1, 0), 0);
        check.same("29: once more", desk.visit(0, 1, 9999), 0);
        check.same("29: two are owed", desk.count(5), 2);
        check.same("29: returned", desk.visit(1, 0, 50), 1);
        check.same("29: one is owed", desk.count(5), 1);
        check.same("29: not the oldest", desk.owes(1, 0, 9999), 0);
        check.same("29: 0 owes nothing for it", desk.owes(0, 0, 9999), NONE);
        check.same("29: returned, too", desk.visit(1, 0, 50), 1);
        check.same("29: none is owed", desk.visit(1, 0, 50), 0);
        check.same("29: 0 owes", desk.owes(0, 0, 50), 100);
        check.same("29: 1 does not", desk.owes(1, 0, 50), NONE);
        check.same("29: another one", desk.visit(2, 1, 50), 0);
        check.same("29: that of 2 stays", desk.visit(1, 0, 60), 0);
        check.refused("29: x nobody", Scene::busy, d -> d.visit(6, 0, 0), NONE);
        check.refused("29: y nobody", Scene::busy, d -> d.visit(0, -1, 0), NONE);
        check.refused("29: NONE ahead of BAD", Scene::busy, d -> d.visit(6, 6, -1), NONE);
        check.refused("29: x is y", Scene::busy, d -> d.visit(1, 1, 0), BAD);
        check.refused("29: day -1", Scene::busy, d -> d.visit(0, 1, -1), BAD);
        check.refused("29: day 10000", Scene::busy, d -> d.visit(0, 1, 10000), BAD);
        check.refused("29: day 10000 of a return", Scene::busy, d -> d.visit(1, 0, 10000), BAD);
    }

    private static ProtocolDesk forty() {
        ProtocolDesk desk = Scene.busy();
        for (int n = 3; n <= 40; n++) {
            check.same("29: many", desk.visit(3, 5, n), 0);
        }
        return desk;
    }

    private static void fullOfVisits() {
        ProtocolDesk desk = forty();
        check.same("29: forty", desk.count(5), 40);
        check.same("29: BAD ahead of FULL", desk.visit(3, 3, 0), BAD);
        check.same("29: NONE ahead of FULL", desk.visit(6, 3, 0), NONE);
        check.refused("29: FULL", VisitsTest::forty, d -> d.visit(3, 5, 0), FULL);
        check.refused("29: FULL for others, too", VisitsTest::forty, d -> d.visit(0, 4, 0), FULL);
        check.same("29: a return needs no room", desk.visit(5, 3, 0), 1);
        check.same("29: there is room again", desk.visit(0, 4, 0), 0);
        check.same("29: FULL again", desk.visit(0, 4, 0), FULL);
    }

    private static void card() {
        ProtocolDesk desk = Scene.people();
        desk.visit(0, 1, 1);
        desk.visit(2, 1, 2);
        desk.visit(0, 1, 3);
        desk.visit(0, 2, 4);
        check.same("30: nothing owed that way", desk.card(0, 1), 0);
        check.same("30: both", desk.card(1, 0), 2);
        check.same("30: none any more", desk.card(1, 0), 0);
        check.same("30: the others stay", desk.count(5), 2);
        check.same("30: that to 2", desk.owes(1, 0, 0), 200);
        check.same("30: to oneself", desk.card(1, 1), 0);
        check.refused("30: x nobody", Scene::busy, d -> d.card(6, 0), NONE);
        check.refused("30: y nobody", Scene::busy, d -> d.card(1, -1), NONE);
    }

    private static void owes() {
        ProtocolDesk desk = Scene.people();
        desk.visit(3, 1, 20);
        desk.visit(0, 2, 5);
        desk.visit(0, 1, 10);
        check.same("31: the first", desk.owes(1, 0, 30), 300);
        check.same("31: late", desk.owes(1, 0, 31), 301);
        check.same("31: the second", desk.owes(1, 1, 20), 0);
        check.same("31: late, too", desk.owes(1, 1, 21), 1);
        check.same("31: no third", desk.owes(1, 2, 21), NONE);
        check.same("31: i -1", desk.owes(1, -1, 21), NONE);
        check.same("31: of another", desk.owes(2, 0, 15), 0);
        check.same("31: nobody", desk.owes(6, 0, 0), NONE);
        check.same("31: x -1", desk.owes(-1, 0, 0), NONE);
        check.same("31: ahead of the visit", desk.owes(1, 0, 0), 300);
        check.same("31: the greatest day", desk.owes(1, 0, Integer.MAX_VALUE), 301);
        check.same("31: the least day", desk.owes(1, 0, Integer.MIN_VALUE), 300);
    }

    private static void within() {
        ProtocolDesk desk = Scene.people();
        desk.visit(3, 1, 20);
        check.same("32: 10 at first", desk.within(1), 10);
        check.same("32: due", desk.owes(1, 0, 21), 300);
        check.same("32: late", desk.owes(1, 0, 22), 301);
        check.same("32: what it was", desk.within(99), 1);
        check.same("32: due", desk.owes(1, 0, 119), 300);
        check.same("32: late", desk.owes(1, 0, 120), 301);
        check.same("32: 99", desk.within(5), 99);
        check.refused("32: 0", Scene::busy, d -> d.within(0), BAD);
        check.refused("32: 100", Scene::busy, d -> d.within(100), BAD);
        check.refused("32: -1", Scene::busy, d -> d.within(-1), BAD);
    }

    private static void count() {
        ProtocolDesk desk = Scene.busy();
        int[] due = {3, 6, 2, 1, 2, 2, 7, 5};
        for (int what = 0; what < due.length; what++) {
            check.same("33: count(" + what + ")", desk.count(what), due[what]);
        }
        check.same("33: 8", desk.count(8), NONE);
        check.same("33: -1", desk.count(-1), NONE);
    }
}

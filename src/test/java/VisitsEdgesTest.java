/** The boundary cases of VISITS: promises 29 to 33. */
public final class VisitsEdgesTest {
    private static final int NONE = ProtocolDesk.NONE;
    private static final int BAD = ProtocolDesk.BAD;
    private static final int FULL = ProtocolDesk.FULL;
    private static final int LEAST = Integer.MIN_VALUE;
    private static final int GREATEST = Integer.MAX_VALUE;
    private static final Check check = new Check();

    public static void main(String[] args) {
        visit();
        visitRefusals();
        fortyVisits();
        card();
        owes();
        dueAndLate();
        within();
        count();
        countFull();
        check.finish();
    }

    private static void visit() {
        check.sentence(29, "x calls on y on a day: 1 if that returned a VISIT (the oldest one that x owed y), else 0, and y OWES.");
        ProtocolDesk desk = Scene.people();
        check.same("the first", desk.visit(0, 1, 9999), 0);
        check.same("the second, of a lesser day", desk.visit(0, 1, 0), 0);
        check.same("the third", desk.visit(0, 1, 9999), 0);
        check.same("returned", desk.visit(1, 0, 0), 1);
        check.same("the first called one went, that of day 0 is late", desk.owes(1, 0, 5000), 1);
        check.same("returned", desk.visit(1, 0, 0), 1);
        check.same("that of day 9999 is left", desk.owes(1, 0, 5000), 0);
        check.same("returned", desk.visit(1, 0, 0), 1);
        check.same("none is owed", desk.count(5), 0);
        check.same("no more to return", desk.visit(1, 0, 0), 0);
        check.same("0 owes 1", desk.owes(0, 0, 0), 100);
        check.same("1 owes nobody", desk.owes(1, 0, 0), NONE);
        desk.there(0, 0);
        check.same("an absent one's visit", desk.visit(0, 5, 0), 0);
        check.same("a visit to an absent one", desk.visit(5, 0, 0), 1);
        check.same("only what x owed y is returned", desk.visit(2, 1, 0), 0);
        check.same("two are owed", desk.count(5), 2);
    }

    private static void visitRefusals() {
        check.sentence(29, "NONE; BAD: x is y, day; FULL: 40 are OWED.");
        check.range("x", Scene::busy, (d, x) -> d.visit(x, 2, 0), Check.edge(0, 0), Check.edge(5, 0), NONE);
        check.range("y", Scene::busy, (d, y) -> d.visit(2, y, 0), Check.edge(0, 0), Check.edge(5, 0), NONE);
        check.range("x of a return", Scene::busy, (d, x) -> d.visit(x, x == 1 ? 0 : 1, 0),
            Check.edge(0, 0), Check.edge(5, 0), NONE);
        check.range("day", Scene::busy, (d, day) -> d.visit(0, 1, day), Check.edge(0, 0), Check.edge(9999, 0), BAD);
        check.range("day of a return", Scene::busy, (d, day) -> d.visit(1, 0, day), Check.edge(0, 1), Check.edge(9999, 1), BAD);
        check.refused("x is y", Scene::busy, d -> d.visit(0, 0, 0), BAD);
        check.refused("x is y, the last", Scene::busy, d -> d.visit(5, 5, 0), BAD);
        check.refused("NONE ahead of BAD, they are one", Scene::busy, d -> d.visit(6, 6, 0), NONE);
        check.refused("NONE ahead of BAD, day", Scene::busy, d -> d.visit(0, 6, -1), NONE);
        check.refused("NONE ahead of FULL", VisitsEdgesTest::forty, d -> d.visit(0, 6, 0), NONE);
        check.refused("BAD ahead of FULL, they are one", VisitsEdgesTest::forty, d -> d.visit(3, 3, 0), BAD);
        check.refused("BAD ahead of FULL, day 10000", VisitsEdgesTest::forty, d -> d.visit(0, 1, 10000), BAD);
        check.refused("BAD ahead of FULL, day -1", VisitsEdgesTest::forty, d -> d.visit(0, 1, -1), BAD);
        check.refused("FULL", VisitsEdgesTest::forty, d -> d.visit(0, 1, 0), FULL);
        check.refused("FULL for others", VisitsEdgesTest::forty, d -> d.visit(5, 4, 9999), FULL);
        check.refused("nobody yet", ProtocolDesk::new, d -> d.visit(0, 1, 0), NONE);
    }

    /** 0 has called on 1 forty times, on days 0 to 39. */
    private static ProtocolDesk forty() {
        ProtocolDesk desk = Scene.people();
        for (int v = 0; v < 40; v++) {
            desk.visit(0, 1, v);
        }
        return desk;
    }

    private static void fortyVisits() {
        check.sentence(29, "FULL: 40 are OWED.");
        ProtocolDesk desk = Scene.people();
        for (int v = 1; v <= 40; v++) {
            check.same("visit " + v, desk.visit(0, 1, v), 0);
            check.same("owed", desk.count(5), v);
        }
        check.same("one more", desk.visit(0, 1, 41), FULL);
        check.same("forty stay", desk.count(5), 40);
        check.same("the last is the fortieth", desk.owes(1, 39, 50), 0);
        check.same("it is late a day later", desk.owes(1, 39, 51), 1);
        check.same("a return needs no room", desk.visit(1, 0, 0), 1);
        check.same("39 are owed", desk.count(5), 39);
        check.same("one fits again", desk.visit(2, 3, 0), 0);
        check.same("no other", desk.visit(2, 3, 0), FULL);
        check.same("a card makes room", desk.card(3, 2), 1);
        check.same("one fits again", desk.visit(4, 5, 0), 0);
        check.same("no other", desk.visit(4, 5, 0), FULL);
        check.same("all that 1 owes", desk.card(1, 0), 39);
        check.same("one is left", desk.count(5), 1);
        check.same("it is the last that came", desk.owes(5, 0, 0), 400);
    }

    private static void card() {
        check.sentence(30, "x sends y a CARD: how many VISITS that returns (all that x OWES y). NONE.");
        check.range("x", Scene::busy, (d, x) -> d.card(x, 2), Check.edge(0, 0), Check.edge(5, 0), NONE);
        check.range("y", Scene::busy, (d, y) -> d.card(1, y), Check.edge(0, 1), Check.edge(5, 0), NONE);
        check.refused("nobody yet", ProtocolDesk::new, d -> d.card(0, 1), NONE);
        check.same("none", Scene.people().card(0, 1), 0);
        check.same("to oneself", Scene.busy().card(1, 1), 0);
        ProtocolDesk desk = forty();
        check.same("not the other way", desk.card(0, 1), 0);
        check.same("all forty", desk.card(1, 0), 40);
        check.same("none is left", desk.count(5), 0);
        check.same("no second time", desk.card(1, 0), 0);
        ProtocolDesk mixed = Scene.people();
        mixed.visit(0, 1, 1);
        mixed.visit(2, 1, 2);
        mixed.visit(0, 1, 3);
        mixed.visit(0, 2, 4);
        mixed.visit(0, 1, 5);
        check.same("three of five", mixed.card(1, 0), 3);
        check.same("that to 2 stays", mixed.owes(1, 0, 12), 200);
        check.same("with its day", mixed.owes(1, 0, 13), 201);
        check.same("that of 2 stays", mixed.owes(2, 0, 14), 0);
        check.same("with its day", mixed.owes(2, 0, 15), 1);
    }

    private static void owes() {
        check.sentence(31, "The i-th VISIT that x OWES: 100 times to whom and 1 if it is LATE on a day. NONE.");
        check.range("i", VisitsEdgesTest::forty, (d, i) -> d.owes(1, i, 49), Check.edge(0, 1), Check.edge(39, 0), NONE);
        check.range("x", VisitsEdgesTest::allOwe, (d, x) -> d.owes(x, 0, 0), Check.edge(0, 500), Check.edge(5, 400), NONE);
        check.refused("none is owed", Scene::people, d -> d.owes(1, 0, 0), NONE);
        check.refused("nobody yet", ProtocolDesk::new, d -> d.owes(0, 0, 0), NONE);
        check.refused("all are wrong", Scene::busy, d -> d.owes(LEAST, GREATEST, LEAST), NONE);
        ProtocolDesk desk = Scene.full();
        check.same("a visit of 9 of twenty", desk.owes(12, 0, 0), 200);
        check.same("the last person owes none", desk.owes(19, 0, 0), NONE);
        check.same("a second one, to 9", desk.owes(12, 1, 0), 900);
        ProtocolDesk last = Scene.full();
        last.card(12, 2);
        last.visit(19, 18, 0);
        check.same("to the last person, late", last.owes(18, 0, 11), 1901);
    }

    /** Each person p was called on by p - 1, and 0 by 5. */
    private static ProtocolDesk allOwe() {
        ProtocolDesk desk = Scene.people();
        for (int p = 0; p < 6; p++) {
            desk.visit((p + 5) % 6, p, 0);
        }
        return desk;
    }

    private static int late(int visited, int allowed, int day) {
        ProtocolDesk desk = Scene.people();
        desk.visit(0, 1, visited);
        desk.within(allowed);
        return desk.owes(1, 0, day);
    }

    private static void dueAndLate() {
        check.sentence(0, "WITHIN days (1 .. 99, 10 at first) it is due, then LATE.");
        int[][] visits = {{0, 1}, {0, 99}, {9999, 1}, {9999, 99}, {50, 10}};
        for (int[] v : visits) {
            String what = "day " + v[0] + " within " + v[1];
            check.same(what + ", that day", late(v[0], v[1], v[0]), 0);
            check.same(what + ", the last day", late(v[0], v[1], v[0] + v[1]), 0);
            check.same(what + ", the day behind", late(v[0], v[1], v[0] + v[1] + 1), 1);
            check.same(what + ", the greatest day", late(v[0], v[1], GREATEST), 1);
            check.same(what + ", day 0", late(v[0], v[1], 0), 0);
            check.same(what + ", day -1", late(v[0], v[1], -1), 0);
            check.same(what + ", the least day", late(v[0], v[1], LEAST), 0);
        }
        ProtocolDesk desk = Scene.people();
        desk.visit(0, 1, 100);
        check.same("10 at first", desk.owes(1, 0, 110), 0);
        check.same("late behind them", desk.owes(1, 0, 111), 1);
    }

    private static void within() {
        check.sentence(32, "WITHIN: what it was. BAD.");
        check.range("days", Scene::busy, (d, days) -> d.within(days), Check.edge(1, 10), Check.edge(99, 10), BAD);
        ProtocolDesk desk = new ProtocolDesk();
        check.same("10 at first", desk.within(99), 10);
        check.same("the greatest is kept", desk.within(1), 99);
        check.same("the least is kept", desk.within(1), 1);
        check.same("refused", desk.within(0), BAD);
        check.same("it stays", desk.within(10), 1);
    }

    private static void count() {
        check.sentence(33, "0 STATES, 1 PERSONS, 2 RULES, 3 HANDS, 4 TABLES, 5 VISITS that are OWED, 6 bytes of THE TAPE, "
            + "7 PERSONS that are there. NONE.");
        check.range("what", Scene::busy, (d, what) -> d.count(what), Check.edge(0, 3), Check.edge(7, 5), NONE);
        int[] busy = {3, 6, 2, 1, 2, 2, 7, 5};
        for (int what = 0; what < 8; what++) {
            check.same("none of " + what, new ProtocolDesk().count(what), 0);
            check.same("busy, " + what, Scene.busy().count(what), busy[what]);
        }
        check.refused("of nothing", ProtocolDesk::new, d -> d.count(8), NONE);
    }

    private static void countFull() {
        check.sentence(33, "NONE.");
        int[] full = {10, 20, 16, 20, 4, 40, 200, 19};
        ProtocolDesk desk = Scene.full();
        for (int what = 0; what < 8; what++) {
            check.same("full, " + what, desk.count(what), full[what]);
        }
        for (int p = 0; p < 20; p++) {
            desk.there(p, 0);
        }
        check.same("all are absent", desk.count(7), 0);
        check.same("they are persons", desk.count(1), 20);
        for (int p = 0; p < 20; p++) {
            desk.there(p, 1);
        }
        check.same("all are there", desk.count(7), 20);
    }
}

/** The boundary cases of the document's head, of STATES and PERSONS, and of promises 1 to 7. */
public final class StatesAndPersonsEdgesTest {
    private static final int NONE = ProtocolDesk.NONE;
    private static final int BAD = ProtocolDesk.BAD;
    private static final int FULL = ProtocolDesk.FULL;
    private static final int LEAST = Integer.MIN_VALUE;
    private static final int GREATEST = Integer.MAX_VALUE;
    private static final Check check = new Check();

    public static void main(String[] args) {
        calls512();
        tenStates();
        namesAndTongues();
        twentyPersons();
        kinds();
        consorts();
        deputies();
        ranksAndDays();
        minutes();
        thereOrAbsent();
        fieldRank();
        fieldPaper();
        fieldsOfAState();
        newObject();
        state();
        person();
        personTwoRefusals();
        paper();
        there();
        splitSets();
        splitRefusals();
        about();
        check.finish();
    }

    private static void calls512() {
        check.sentence(0, "An object is used for at most 512 calls after it has been made");
        ProtocolDesk desk = new ProtocolDesk();
        int before = 10;
        for (int call = 1; call <= 512; call++) {
            int days = 1 + call % 99;
            check.same("call " + call, desk.within(days), before);
            before = days;
        }
        ProtocolDesk full = Scene.full();
        for (int call = 200; call <= 512; call++) {
            check.same("call " + call, full.order(1, 5, 20), NONE);
        }
    }

    private static void tenStates() {
        check.sentence(0, "STATES are numbered from 0 on, 10 at most");
        ProtocolDesk desk = new ProtocolDesk();
        check.same("none at first", desk.count(0), 0);
        for (int s = 0; s < 10; s++) {
            check.same("state " + s, desk.state(0, 0), s);
        }
        check.same("an eleventh", desk.state(0, 0), FULL);
        check.same("an eleventh by a split", desk.split(0, 0, 0, 0), FULL);
        check.same("ten stay", desk.count(0), 10);
        check.same("the last one is one", desk.person(9, 2, 0, 0, 0), 0);
        check.same("behind it is none", desk.person(10, 2, 0, 0, 0), NONE);
        ProtocolDesk split = new ProtocolDesk();
        split.state(0, 0);
        for (int s = 1; s < 10; s++) {
            check.same("split off " + s, split.split(s - 1, 0, 0, 0), s);
        }
        check.same("an eleventh", split.split(0, 0, 0, 0), FULL);
        check.same("an eleventh by state", split.state(0, 0), FULL);
    }

    private static int nameKept(int name) {
        ProtocolDesk desk = new ProtocolDesk();
        return desk.about(desk.person(desk.state(name, 3), 2, 0, 0, 0), 3);
    }

    private static int tongueKept(int tongue) {
        ProtocolDesk desk = new ProtocolDesk();
        return desk.about(desk.person(desk.state(50, tongue), 2, 0, 0, 0), 6);
    }

    private static void namesAndTongues() {
        check.sentence(0, "each with a NAME (0 ..");
        check.sentence(0, "99, its place in the letters)");
        check.range("state's name", Scene::busy, (d, n) -> d.state(n, 0), Check.edge(0, 3), Check.edge(99, 3), BAD);
        check.range("split's name", Scene::busy, (d, n) -> d.split(0, n, 0, 1), Check.edge(0, 3), Check.edge(99, 3), BAD);
        check.same("0 is kept", nameKept(0), 0);
        check.same("99 is kept", nameKept(99), 99);
        check.sentence(0, "a TONGUE (0 .. 7)");
        check.range("state's tongue", Scene::busy, (d, n) -> d.state(0, n), Check.edge(0, 3), Check.edge(7, 3), BAD);
        check.range("split's tongue", Scene::busy, (d, n) -> d.split(0, 0, n, 1), Check.edge(0, 3), Check.edge(7, 3), BAD);
        check.range("talk's first", Scene::busy, (d, n) -> d.talk(n, 3, 1), Check.edge(0, 0), Check.edge(7, 0), BAD);
        check.range("talk's second", Scene::busy, (d, n) -> d.talk(3, n, 1), Check.edge(0, 0), Check.edge(7, 0), BAD);
        check.same("0 is kept", tongueKept(0), 0);
        check.same("7 is kept", tongueKept(7), 7);
    }

    private static void twentyPersons() {
        check.sentence(0, "PERSONS are numbered from 0 on, 20 at most");
        ProtocolDesk desk = new ProtocolDesk();
        desk.state(0, 0);
        check.same("none at first", desk.count(1), 0);
        for (int p = 0; p < 20; p++) {
            check.same("behind the last one is none", desk.about(p, 0), NONE);
            check.same("person " + p, desk.person(0, 2, p % 10, p, 0), p);
            check.same("it is one then", desk.about(p, 4), p);
        }
        check.same("a twenty-first", desk.person(0, 2, 0, 0, 0), FULL);
        check.same("twenty stay", desk.count(1), 20);
        check.same("there is no twenty-first", desk.about(20, 0), NONE);
        check.same("the last one's rank", desk.about(19, 1), 9);
    }

    /** Persons 0 to 5 are of kinds 0 to 5, the envoy with a paper; the consort and the deputy are of it. */
    private static ProtocolDesk ofEachKind() {
        ProtocolDesk desk = new ProtocolDesk();
        desk.state(4, 2);
        for (int kind = 0; kind < 6; kind++) {
            desk.person(0, kind, 3, 20, 0);
        }
        desk.paper(0, 80);
        return desk;
    }

    private static void kinds() {
        check.sentence(0, "of a KIND: 0 ENVOY, 1 ACTING, 2 GUEST, 3 CONSORT");
        check.range("kind", Scene::busy, (d, n) -> d.person(0, n, 0, 0, 0), Check.edge(0, 6), Check.edge(5, 6), BAD);
        ProtocolDesk desk = ofEachKind();
        check.same("all six were taken", desk.count(1), 6);
        for (int kind = 0; kind < 6; kind++) {
            check.same("kind " + kind, desk.about(kind, 0), kind);
        }
    }

    private static void consorts() {
        check.sentence(0, "3 CONSORT (of a PERSON, an ENVOY or GUEST, with a lesser number)");
        int[] answers = {6, BAD, 6, BAD, BAD, BAD};
        for (int of = 0; of < 6; of++) {
            int one = of;
            if (answers[of] == BAD) {
                check.refused("of kind " + of, StatesAndPersonsEdgesTest::ofEachKind, d -> d.person(0, 3, 0, 0, one), BAD);
            } else {
                ProtocolDesk desk = ofEachKind();
                check.same("of kind " + of, desk.person(0, 3, 0, 0, of), 6);
                check.same("it is of that one", desk.about(6, 8), of);
            }
        }
        check.refused("of itself", StatesAndPersonsEdgesTest::ofEachKind, d -> d.person(0, 3, 0, 0, 6), NONE);
        check.refused("of -1", StatesAndPersonsEdgesTest::ofEachKind, d -> d.person(0, 3, 0, 0, -1), NONE);
        check.refused("of the least", StatesAndPersonsEdgesTest::ofEachKind, d -> d.person(0, 3, 0, 0, LEAST), NONE);
        check.refused("of the greatest", StatesAndPersonsEdgesTest::ofEachKind, d -> d.person(0, 3, 0, 0, GREATEST), NONE);
        ProtocolDesk desk = ofEachKind();
        desk.person(0, 2, 8, 0, 0);
        check.same("of the last one", desk.person(0, 3, 0, 0, 6), 7);
        check.same("a consort of another state", desk.about(7, 1), 8);
        check.same("none is there for the first person", oneState().person(0, 3, 0, 0, 0), NONE);
    }

    private static ProtocolDesk oneState() {
        ProtocolDesk desk = new ProtocolDesk();
        desk.state(0, 0);
        return desk;
    }

    private static void deputies() {
        check.sentence(0, "4 DEPUTY (of an ENVOY, likewise)");
        ProtocolDesk desk = ofEachKind();
        check.same("of an envoy", desk.person(0, 4, 0, 0, 0), 6);
        check.same("it is of that one", desk.about(6, 8), 0);
        for (int of = 1; of < 6; of++) {
            int one = of;
            check.refused("of kind " + of, StatesAndPersonsEdgesTest::ofEachKind, d -> d.person(0, 4, 0, 0, one), BAD);
        }
        check.refused("of itself", StatesAndPersonsEdgesTest::ofEachKind, d -> d.person(0, 4, 0, 0, 6), NONE);
        check.refused("of -1", StatesAndPersonsEdgesTest::ofEachKind, d -> d.person(0, 4, 0, 0, -1), NONE);
        check.refused("of the least", StatesAndPersonsEdgesTest::ofEachKind, d -> d.person(0, 4, 0, 0, LEAST), NONE);
        check.refused("of the greatest", StatesAndPersonsEdgesTest::ofEachKind, d -> d.person(0, 4, 0, 0, GREATEST), NONE);
        desk.person(0, 0, 8, 0, 0);
        check.same("of the last one", desk.person(0, 4, 0, 0, 7), 8);
        check.same("none is there for the first person", oneState().person(0, 4, 0, 0, 0), NONE);
    }

    private static void ranksAndDays() {
        check.sentence(0, "a RANK (0 .. 9)");
        for (int kind = 0; kind < 6; kind++) {
            int k = kind;
            check.range("rank, kind " + kind, Scene::busy, (d, n) -> d.person(0, k, n, 0, 0),
                Check.edge(0, 6), Check.edge(9, 6), BAD);
        }
        ProtocolDesk desk = oneState();
        desk.person(0, 2, 0, 0, 0);
        desk.person(0, 2, 9, 9999, 0);
        check.same("0 is kept", desk.about(0, 1), 0);
        check.same("9 is kept", desk.about(1, 1), 9);
        check.sentence(0, "the DAY since when (0 .. 9999)");
        for (int kind = 0; kind < 6; kind++) {
            int k = kind;
            check.range("since, kind " + kind, Scene::busy, (d, n) -> d.person(0, k, 0, n, 0),
                Check.edge(0, 6), Check.edge(9999, 6), BAD);
        }
        check.same("0 is kept", desk.about(0, 4), 0);
        check.same("9999 is kept", desk.about(1, 4), 9999);
    }

    private static void minutes() {
        check.sentence(0, "a PAPER: the MINUTE (1 .. 99999999) at which it was handed; 0: none.");
        check.range("minute", Scene::busy, (d, n) -> d.paper(0, n), Check.edge(0, 7000), Check.edge(99999999, 7000), BAD);
        ProtocolDesk desk = ofEachKind();
        for (int p = 1; p < 6; p++) {
            check.same("none at first, " + p, desk.paper(p, 1), 0);
            check.same("the least is kept, " + p, desk.paper(p, 99999999), 1);
            check.same("the greatest is kept, " + p, desk.paper(p, 0), 99999999);
            check.same("taken away, " + p, desk.paper(p, 0), 0);
        }
        check.same("with the least one it has one", withPaper(1), 3);
        check.same("with the greatest one, too", withPaper(99999999), 3);
        check.same("with 0 it has none", withPaper(0), 9);
    }

    private static int withPaper(int minute) {
        ProtocolDesk desk = ofEachKind();
        desk.paper(0, minute);
        return desk.about(0, 1);
    }

    private static void thereOrAbsent() {
        check.sentence(0, "Each is there or ABSENT.");
        ProtocolDesk desk = ofEachKind();
        for (int p = 0; p < 6; p++) {
            check.same("there at first, " + p, desk.about(p, 7), 1);
            desk.there(p, 0);
            check.same("absent, " + p, desk.about(p, 7), 0);
            check.same("the others are there, " + p, desk.count(7), 5 - p);
        }
    }

    private static void fieldRank() {
        check.sentence(0, "rank (of a CONSORT the rank of the one that it is of; of a DEPUTY 1 more than that, 9 at most; "
            + "of an ENVOY without a PAPER 9; else the RANK)");
        for (int rank = 0; rank < 10; rank++) {
            ProtocolDesk desk = oneState();
            desk.person(0, 0, rank, 0, 0);
            desk.person(0, 3, 9 - rank, 0, 0);
            desk.person(0, 4, 9 - rank, 0, 0);
            desk.person(0, 2, rank, 0, 0);
            desk.person(0, 3, 9 - rank, 0, 3);
            desk.person(0, 1, rank, 0, 0);
            desk.person(0, 5, rank, 0, 0);
            int[] without = {9, 9, 9, rank, rank, rank, rank};
            dueRanks("without papers", desk, without);
            for (int p = 1; p < 7; p++) {
                desk.paper(p, 5);
            }
            dueRanks("with papers of the others", desk, without);
            desk.paper(0, 5);
            int[] with = {rank, rank, rank < 9 ? rank + 1 : 9, rank, rank, rank, rank};
            dueRanks("with a paper", desk, with);
            desk.paper(0, 0);
            dueRanks("taken away", desk, without);
        }
    }

    private static void dueRanks(String what, ProtocolDesk desk, int[] ranks) {
        for (int p = 0; p < ranks.length; p++) {
            check.same(what + ", person " + p + " of rank " + ranks[5], desk.about(p, 1), ranks[p]);
        }
    }

    private static void fieldPaper() {
        check.sentence(0, "paper (MINUTE; without one 99999999; of a CONSORT the paper of the one it is of)");
        ProtocolDesk desk = ofEachKind();
        desk.paper(0, 0);
        for (int p = 0; p < 6; p++) {
            check.same("without one, " + p, desk.about(p, 2), 99999999);
        }
        desk.paper(3, 7);
        check.same("its own does not show", desk.about(3, 2), 99999999);
        desk.paper(0, 1);
        check.same("that of the envoy", desk.about(3, 2), 1);
        check.same("a deputy does not have it", desk.about(4, 2), 99999999);
        desk.paper(4, 6);
        check.same("a deputy has its own", desk.about(4, 2), 6);
        desk.person(0, 3, 0, 0, 2);
        check.same("of a guest without one", desk.about(6, 2), 99999999);
        desk.paper(2, 99999998);
        check.same("of a guest", desk.about(6, 2), 99999998);
        desk.paper(2, 99999999);
        check.same("the greatest is as none", desk.about(2, 2), 99999999);
    }

    private static void fieldsOfAState() {
        check.sentence(0, "name (of its STATE), since (DAY), kind, state, tongue (of its STATE).");
        ProtocolDesk desk = new ProtocolDesk();
        desk.state(99, 7);
        desk.state(0, 0);
        desk.person(0, 0, 0, 9999, 0);
        desk.person(1, 3, 0, 0, 0);
        int[] envoy = {0, 9, 99999999, 99, 9999, 0, 7, 1, NONE};
        int[] consort = {3, 9, 99999999, 0, 0, 1, 0, 1, 0};
        for (int what = 0; what < 9; what++) {
            check.same("an envoy's " + what, desk.about(0, what), envoy[what]);
            check.same("its consort's, of another state, " + what, desk.about(1, what), consort[what]);
        }
    }

    private static void newObject() {
        check.sentence(1, "Nothing is there, an empty TAPE.");
        ProtocolDesk desk = new ProtocolDesk();
        for (int what = 0; what < 8; what++) {
            check.same("count " + what, desk.count(what), 0);
        }
        check.same("no state", desk.person(0, 2, 0, 0, 0), NONE);
        check.same("no state to split", desk.split(0, 0, 0, 0), NONE);
        check.same("no feud", desk.feud(0, 1, 1), NONE);
        check.same("no person", desk.about(0, 0), NONE);
        check.same("nobody is there", desk.order(0, 0, 0), NONE);
        check.same("no ring", desk.ring(0, 0, 0), NONE);
        check.same("no dean", desk.dean(), NONE);
        check.same("no rule", desk.ends(0, 1), NONE);
        check.same("no hand", desk.hand(0, 1), NONE);
        check.same("no table", desk.keeps(0), NONE);
        check.same("no seat", desk.seat(0, 0), NONE);
        check.same("no visit", desk.owes(0, 0, 0), NONE);
        check.same("an empty tape", desk.wipe(), 0);
        check.same("it ends at once", desk.rule(0, 1), -10);
    }

    private static void state() {
        check.sentence(2, "A STATE more: its number. BAD; FULL.");
        check.refused("both are wrong", Scene::busy, d -> d.state(LEAST, GREATEST), BAD);
        check.refused("BAD ahead of FULL, name", Scene::full, d -> d.state(100, 0), BAD);
        check.refused("BAD ahead of FULL, tongue", Scene::full, d -> d.state(0, 8), BAD);
        check.refused("FULL", Scene::full, d -> d.state(99, 7), FULL);
        check.same("like names and tongues are fine", oneState().state(0, 0), 1);
    }

    private static void person() {
        check.sentence(3, "A PERSON more, there, without a PAPER (of: of whom a CONSORT, DEPUTY is; of others 0): its number.");
        ProtocolDesk desk = ofEachKind();
        int[] of = {NONE, NONE, NONE, 0, 0, NONE};
        for (int kind = 0; kind < 6; kind++) {
            check.same("of whom, kind " + kind, desk.about(kind, 8), of[kind]);
        }
        check.sentence(3, "NONE (of, too);");
        check.range("state", Scene::busy, (d, s) -> d.person(s, 2, 0, 0, 0), Check.edge(0, 6), Check.edge(2, 6), NONE);
        check.refused("a consort of nobody", Scene::busy, d -> d.person(0, 3, 0, 0, 6), NONE);
        check.refused("a deputy of nobody", Scene::busy, d -> d.person(0, 4, 0, 0, 6), NONE);
        check.sentence(3, "BAD: kind, rank, since, of is not 0, or not of such a KIND; FULL.");
        int[] others = {0, 1, 2, 5};
        int[] notZero = {LEAST, -1, 1, 5, 6, GREATEST};
        for (int kind : others) {
            for (int one : notZero) {
                check.refused("kind " + kind + " of " + one, Scene::busy, d -> d.person(0, kind, 0, 0, one), BAD);
            }
        }
        check.refused("FULL", Scene::full, d -> d.person(9, 5, 9, 9999, 0), FULL);
        check.refused("FULL for a consort", Scene::full, d -> d.person(0, 3, 0, 0, 19), FULL);
        check.refused("FULL for a deputy", Scene::full, d -> d.person(0, 4, 0, 0, 1), FULL);
    }

    private static void personTwoRefusals() {
        check.sentence(0, "5 REFUSALS, of several the first one told");
        check.refused("no state, kind", Scene::busy, d -> d.person(3, 6, 0, 0, 0), NONE);
        check.refused("no state, rank", Scene::busy, d -> d.person(3, 2, 10, 0, 0), NONE);
        check.refused("no state, since", Scene::busy, d -> d.person(3, 2, 0, 10000, 0), NONE);
        check.refused("no state, of", Scene::busy, d -> d.person(3, 2, 0, 0, 1), NONE);
        check.refused("no state, not of such a kind", Scene::busy, d -> d.person(3, 4, 0, 0, 2), NONE);
        check.refused("no state, full", Scene::full, d -> d.person(10, 2, 0, 0, 0), NONE);
        check.refused("of nobody, rank", Scene::busy, d -> d.person(0, 3, -1, 0, 6), NONE);
        check.refused("of nobody, since", Scene::busy, d -> d.person(0, 4, 0, -1, 6), NONE);
        check.refused("of nobody, full", Scene::full, d -> d.person(0, 3, 0, 0, 20), NONE);
        check.refused("kind, of none", Scene::busy, d -> d.person(0, 6, 0, 0, 6), BAD);
        check.refused("kind, full", Scene::full, d -> d.person(0, -1, 0, 0, 0), BAD);
        check.refused("rank, full", Scene::full, d -> d.person(0, 2, 10, 0, 0), BAD);
        check.refused("since, full", Scene::full, d -> d.person(0, 2, 0, 10000, 0), BAD);
        check.refused("of, full", Scene::full, d -> d.person(0, 2, 0, 0, 1), BAD);
        check.refused("not of such a kind, full", Scene::full, d -> d.person(0, 4, 0, 0, 2), BAD);
    }

    private static void paper() {
        check.sentence(4, "A PAPER is handed at a MINUTE (0: taken away): what it was. NONE; BAD.");
        check.range("person", Scene::busy, (d, p) -> d.paper(p, 1), Check.edge(0, 7000), Check.edge(5, 900), NONE);
        check.range("person of twenty", Scene::full, (d, p) -> d.paper(p, 0), Check.edge(0, 7000), Check.edge(19, 0), NONE);
        check.refused("NONE ahead of BAD", Scene::busy, d -> d.paper(6, -1), NONE);
        check.refused("NONE ahead of BAD", Scene::busy, d -> d.paper(-1, 100000000), NONE);
        check.refused("nobody yet", ProtocolDesk::new, d -> d.paper(0, 1), NONE);
        ProtocolDesk desk = Scene.busy();
        check.same("an absent one, too", desk.paper(4, 6), 0);
        check.same("what it was", desk.paper(4, 6), 6);
    }

    private static void there() {
        check.sentence(5, "A PERSON is there (1), or ABSENT (0; its SEATS are empty then): what it was. NONE; BAD.");
        check.range("is", Scene::busy, (d, is) -> d.there(2, is), Check.edge(0, 1), Check.edge(1, 1), BAD);
        check.range("person", Scene::busy, (d, p) -> d.there(p, 0), Check.edge(0, 1), Check.edge(5, 1), NONE);
        check.refused("NONE ahead of BAD", Scene::busy, d -> d.there(6, 2), NONE);
        check.refused("nobody yet", ProtocolDesk::new, d -> d.there(0, 1), NONE);
        ProtocolDesk desk = oneState();
        desk.person(0, 2, 0, 0, 0);
        desk.person(0, 2, 0, 0, 0);
        for (int t = 0; t < 4; t++) {
            desk.table(t % 2, 12);
            desk.sit(t, 11, 0);
            desk.sit(t, 0, 1);
        }
        desk.there(0, 1);
        check.same("who is still there sits", desk.seat(3, 11), 0);
        desk.there(0, 0);
        for (int t = 0; t < 4; t++) {
            check.same("the last seat of table " + t, desk.seat(t, 11), NONE);
            check.same("the other's seat of table " + t, desk.seat(t, 0), 1);
        }
        check.same("what it was, absent", desk.there(0, 0), 0);
        check.same("what it was, absent still", desk.there(0, 1), 0);
        check.same("what it was, there", desk.there(0, 1), 1);
        check.same("no seat of its own comes again", desk.seat(0, 11), NONE);
    }

    private static void splitSets() {
        check.sentence(6, "A STATE splits: a new one, with NAME and TONGUE; PERSONS of a set (bits) that are of it "
            + "are of the new one then: its number.");
        ProtocolDesk desk = Scene.full();
        ProtocolDesk small = oneState();
        check.same("a state of nobody", small.split(0, 99, 7, 0), 1);
        for (int p = 0; p < 20; p++) {
            small.person(p % 2, 2, 0, 0, 0);
        }
        check.same("all twenty bits", small.split(1, 98, 6, 0xFFFFF), 2);
        for (int p = 0; p < 20; p++) {
            check.same("state of " + p, small.about(p, 5), p % 2 == 0 ? 0 : 2);
            check.same("name of " + p, small.about(p, 3), p % 2 == 0 ? 0 : 98);
            check.same("tongue of " + p, small.about(p, 6), p % 2 == 0 ? 0 : 6);
        }
        check.same("the least and the greatest bit", small.split(0, 1, 1, 0x80001), 3);
        check.same("0 was of it", small.about(0, 5), 3);
        check.same("19 was not", small.about(19, 5), 2);
        check.same("an empty set", small.split(2, 1, 1, 0), 4);
        check.same("nobody moved", small.about(19, 5), 2);
        check.same("a person of the split one may move on", small.split(2, 5, 5, 0x80000), 5);
        check.same("19 moved", small.about(19, 5), 5);
        check.same("a full one stays", desk.about(19, 5), 9);
    }

    private static void splitRefusals() {
        check.sentence(6, "NONE; BAD (a bit of no PERSON, too); FULL.");
        check.range("state", Scene::busy, (d, s) -> d.split(s, 0, 0, 1), Check.edge(0, 3), Check.edge(2, 3), NONE);
        int[] wrong = {1 << 6, 1 << 6 | 1, 1 << 20, 1 << 30, LEAST, -1, GREATEST, LEAST | 1};
        for (int set : wrong) {
            check.refused("set " + set, Scene::busy, d -> d.split(0, 0, 0, set), BAD);
        }
        check.same("the last person's bit", Scene.busy().split(0, 0, 0, 1 << 5), 3);
        check.refused("a bit where nobody is yet", StatesAndPersonsEdgesTest::oneState, d -> d.split(0, 0, 0, 1), BAD);
        check.refused("NONE ahead of BAD, name", Scene::busy, d -> d.split(3, 100, 0, 1), NONE);
        check.refused("NONE ahead of BAD, tongue", Scene::busy, d -> d.split(-1, 0, 8, 1), NONE);
        check.refused("NONE ahead of BAD, set", Scene::busy, d -> d.split(3, 0, 0, 64), NONE);
        check.refused("NONE ahead of FULL", Scene::full, d -> d.split(10, 0, 0, 1), NONE);
        check.refused("BAD ahead of FULL, name", Scene::full, d -> d.split(0, -1, 0, 1), BAD);
        check.refused("BAD ahead of FULL, tongue", Scene::full, d -> d.split(0, 0, -1, 1), BAD);
        check.refused("BAD ahead of FULL, set", Scene::full, d -> d.split(0, 0, 0, 1 << 20), BAD);
        check.refused("FULL", Scene::full, d -> d.split(0, 0, 0, 1), FULL);
    }

    private static void about() {
        check.sentence(7, "Of a PERSON what 0 KIND, 1 rank, 2 paper, 3 name, 4 since, 5 state, 6 tongue (FIELDS), "
            + "7 whether it is there, 8 of whom it is (NONE). NONE.");
        check.range("what", Scene::busy, (d, what) -> d.about(4, what), Check.edge(0, 4), Check.edge(8, 1), NONE);
        check.range("person", Scene::busy, (d, p) -> d.about(p, 0), Check.edge(0, 0), Check.edge(5, 5), NONE);
        check.range("person of twenty", Scene::full, (d, p) -> d.about(p, 4), Check.edge(0, 100), Check.edge(19, 19), NONE);
        ProtocolDesk desk = ofEachKind();
        int[] deputy = {4, 4, 99999999, 4, 20, 0, 2, 1, 0};
        for (int what = 0; what < 9; what++) {
            check.same("a deputy's " + what, desk.about(4, what), deputy[what]);
        }
        check.same("of nobody, an elder", desk.about(5, 8), NONE);
        check.same("both are wrong", desk.about(LEAST, GREATEST), NONE);
    }
}

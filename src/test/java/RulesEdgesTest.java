/** The boundary cases of RULES that are in force, of HANDS and of QUARRELS: promises 11 to 16. */
public final class RulesEdgesTest {
    private static final int NONE = ProtocolDesk.NONE;
    private static final int BAD = ProtocolDesk.BAD;
    private static final int FULL = ProtocolDesk.FULL;
    private static final int NOT_TWO = -2;
    private static final int LEAST = Integer.MIN_VALUE;
    private static final int GREATEST = Integer.MAX_VALUE;
    private static final Check check = new Check();

    public static void main(String[] args) {
        daysInForce();
        occasions();
        daysOfACall();
        unlikePersons();
        keys();
        testsOneOrAll();
        testNumbers();
        eitherWay();
        ends();
        decides();
        hands();
        handRefusals();
        whichGoes();
        ahead();
        why();
        quarrels();
        check.finish();
    }

    /** Two guests of ranks 0 and 9, since days 9999 and 0, names 0 and 99, tongues 0 and 7. */
    private static ProtocolDesk two() {
        ProtocolDesk desk = new ProtocolDesk();
        desk.state(0, 0);
        desk.state(99, 7);
        desk.person(0, 2, 0, 9999, 0);
        desk.person(1, 2, 9, 0, 0);
        return desk;
    }

    private static ProtocolDesk two(String... rules) {
        ProtocolDesk desk = two();
        for (String text : rules) {
            Scene.rule(desk, text);
        }
        return desk;
    }

    private static void daysInForce() {
        check.sentence(0, "each in force on days from a first one on, ahead of another one (0 <= first < other <= 10000)");
        int[][] spans = {{0, 1}, {0, 10000}, {9999, 10000}, {5, 6}, {5, 9}};
        for (int[] span : spans) {
            ProtocolDesk desk = two();
            Scene.rule(desk, "on * rank up", span[0], span[1]);
            String what = span[0] + " to " + span[1];
            if (span[0] > 0) {
                check.same(what + ", the day before", desk.decides(0, 0, span[0] - 1, 0, 1), 0);
                check.same(what + ", the day before", desk.ahead(0, span[0] - 1, 0, 1), 0);
            }
            check.same(what + ", the first day", desk.decides(0, 0, span[0], 0, 1), 1);
            check.same(what + ", the first day", desk.ahead(0, span[0], 0, 1), 1);
            check.same(what + ", the last day", desk.decides(0, 0, span[1] - 1, 0, 1), 1);
            check.same(what + ", the last day", desk.why(0, span[1] - 1, 0, 1), 0);
            check.same(what + ", the other day", desk.decides(0, 0, span[1], 0, 1), 0);
            check.same(what + ", the other day", desk.why(0, span[1], 0, 1), NONE);
            check.same(what + ", the greatest day", desk.decides(0, 0, GREATEST, 0, 1), 0);
        }
    }

    private static void occasions() {
        check.sentence(0, "For an OCCASION o (0 .. 9)");
        check.range("decides", Scene::busy, (d, o) -> d.decides(0, o, 5, 0, 1), Check.edge(0, 1), Check.edge(9, 1), NOT_TWO);
        check.range("ahead", Scene::busy, (d, o) -> d.ahead(o, 5, 0, 1), Check.edge(0, 1), Check.edge(9, 1), NOT_TWO);
        check.range("why", Scene::busy, (d, o) -> d.why(o, 5, 0, 1), Check.edge(0, 0), Check.edge(9, 0), NONE);
        check.range("quarrel", RulesEdgesTest::quarrelling, (d, o) -> d.quarrel(o, 5, 0, 1),
            Check.edge(0, 0), Check.edge(9, 0), NONE);
        check.range("order", Scene::busy, (d, o) -> d.order(o, 5, 0), Check.edge(0, 2), Check.edge(9, 2), NONE);
        check.range("ring", RulesEdgesTest::ringed, (d, o) -> d.ring(o, 5, 2), Check.edge(0, 1), Check.edge(9, 1), NONE);
        check.range("price", Scene::busy, (d, o) -> d.price(0, o, 5), Check.edge(0, 1), Check.edge(9, 1), NONE);
        check.range("lay", Scene::busy, (d, o) -> d.lay(0, o, 5, 1), Check.edge(0, 0), Check.edge(9, 0), NONE);
        check.sentence(0, "its OCC is * or o");
        for (int occ = 0; occ < 10; occ++) {
            ProtocolDesk desk = two("on " + occ + " rank up", "on * rank up");
            for (int o = 0; o < 10; o++) {
                check.same("rule of " + occ + ", occasion " + o, desk.decides(0, o, 5, 0, 1), o == occ ? 1 : 0);
                check.same("rule of *, occasion " + o, desk.decides(1, o, 5, 0, 1), 1);
            }
        }
    }

    private static ProtocolDesk quarrelling() {
        ProtocolDesk desk = Scene.people();
        Scene.rule(desk, "on * rank up");
        Scene.rule(desk, "on * rank down");
        return desk;
    }

    /** 0 is ahead of 1, 1 of 2, 2 of 0, by hands: the ring is 0, 2, 1. */
    private static ProtocolDesk ringed() {
        ProtocolDesk desk = Scene.people();
        desk.hand(0, 1);
        desk.hand(1, 2);
        desk.hand(2, 0);
        return desk;
    }

    private static void daysOfACall() {
        check.sentence(0, "OCCASION (a day below 0 with it, too)");
        int[] below = {-1, LEAST};
        for (int day : below) {
            check.refused("decides on " + day, Scene::busy, d -> d.decides(0, 0, day, 0, 1), NOT_TWO);
            check.refused("ahead on " + day, Scene::busy, d -> d.ahead(0, day, 0, 1), NOT_TWO);
            check.refused("why on " + day, Scene::busy, d -> d.why(0, day, 0, 1), NONE);
            check.refused("why by a hand on " + day, Scene::busy, d -> d.why(0, day, 0, 5), NONE);
            check.refused("quarrel on " + day, RulesEdgesTest::quarrelling, d -> d.quarrel(0, day, 0, 1), NONE);
            check.refused("order on " + day, Scene::busy, d -> d.order(0, day, 0), NONE);
            check.refused("ring on " + day, RulesEdgesTest::ringed, d -> d.ring(0, day, 0), NONE);
            check.refused("price on " + day, Scene::busy, d -> d.price(0, 0, day), NONE);
            check.refused("lay on " + day, Scene::busy, d -> d.lay(0, 0, day, 1), NONE);
        }
        int[] fine = {0, 9999, 10000, GREATEST};
        for (int day : fine) {
            check.same("ahead on " + day, Scene.busy().ahead(0, day, 0, 1), day == 0 ? 1 : 0);
            check.same("a hand on " + day, Scene.busy().ahead(0, day, 5, 0), 1);
            check.same("why on " + day, Scene.busy().why(0, day, 0, 5), 100);
            check.same("decides on " + day, Scene.busy().decides(0, 0, day, 0, 1), day == 0 ? 1 : 0);
            check.same("quarrel on " + day, quarrelling().quarrel(0, day, 0, 1), day < 10000 ? 0 : NONE);
            check.same("ring on " + day, ringed().ring(0, day, 2), 1);
            check.same("order on " + day, Scene.busy().order(3, day, 0), day == 0 ? 2 : 1);
            check.same("price on " + day, Scene.busy().price(1, 3, day), 4);
            check.same("lay on " + day, Scene.busy().lay(0, 3, day, 1), 0);
        }
    }

    private static void unlikePersons() {
        check.sentence(0, "and PERSONS x, y (unlike)");
        check.range("decides' x", Scene::busy, (d, x) -> d.decides(0, 0, 5, x, 3), Check.edge(0, 0), Check.edge(5, -1), NOT_TWO);
        check.range("decides' y", Scene::busy, (d, y) -> d.decides(0, 0, 5, 2, y), Check.edge(0, 1), Check.edge(5, 1), NOT_TWO);
        check.range("ahead's x", Scene::busy, (d, x) -> d.ahead(0, 5, x, 2), Check.edge(0, -1), Check.edge(5, -1), NOT_TWO);
        check.range("ahead's y", Scene::busy, (d, y) -> d.ahead(0, 5, 2, y), Check.edge(0, 1), Check.edge(5, 1), NOT_TWO);
        check.range("why's x", Scene::busy, (d, x) -> d.why(0, 5, x, 2), Check.edge(0, 0), Check.edge(5, 0), NONE);
        check.range("why's y", Scene::busy, (d, y) -> d.why(0, 5, 2, y), Check.edge(0, 0), Check.edge(5, 0), NONE);
        check.range("quarrel's x", RulesEdgesTest::quarrelling, (d, x) -> d.quarrel(0, 5, x, 2),
            Check.edge(0, 0), Check.edge(5, 0), NONE);
        check.range("quarrel's y", RulesEdgesTest::quarrelling, (d, y) -> d.quarrel(0, 5, 2, y),
            Check.edge(0, 0), Check.edge(5, 0), NONE);
        for (int p = 0; p < 6; p++) {
            int one = p;
            check.refused("decides, twice " + p, Scene::busy, d -> d.decides(0, 0, 5, one, one), NOT_TWO);
            check.refused("ahead, twice " + p, Scene::busy, d -> d.ahead(0, 5, one, one), NOT_TWO);
            check.refused("why, twice " + p, Scene::busy, d -> d.why(0, 5, one, one), NONE);
            check.refused("quarrel, twice " + p, RulesEdgesTest::quarrelling, d -> d.quarrel(0, 5, one, one), NONE);
        }
        check.refused("nobody twice", Scene::busy, d -> d.ahead(0, 5, 6, 6), NOT_TWO);
    }

    private static void keys() {
        check.sentence(0, "and KEY of x and y differ: x is AHEAD if its KEY is less (up; down: greater), else y.");
        String[] keys = {"rank", "since", "name"};
        int[] up = {1, -1, 1};
        for (int k = 0; k < keys.length; k++) {
            ProtocolDesk desk = two("on * " + keys[k] + " up", "on * " + keys[k] + " down");
            check.same(keys[k] + " up", desk.decides(0, 0, 0, 0, 1), up[k]);
            check.same(keys[k] + " up, turned", desk.decides(0, 0, 0, 1, 0), -up[k]);
            check.same(keys[k] + " down", desk.decides(1, 0, 0, 0, 1), -up[k]);
            check.same(keys[k] + " down, turned", desk.decides(1, 0, 0, 1, 0), up[k]);
        }
        ProtocolDesk desk = two("on * paper up", "on * paper down", "on * kind up", "on * kind down");
        for (int r = 0; r < 4; r++) {
            check.same("like ones, rule " + r, desk.decides(r, 0, 0, 0, 1), 0);
        }
        desk.paper(0, 99999999);
        check.same("the greatest paper and none are like", desk.decides(0, 0, 0, 0, 1), 0);
        desk.paper(0, 99999998);
        check.same("the next one is less than none", desk.decides(0, 0, 0, 0, 1), 1);
        check.same("down", desk.decides(1, 0, 0, 0, 1), -1);
        desk.paper(1, 99999997);
        check.same("less by one", desk.decides(0, 0, 0, 0, 1), -1);
    }

    private static int with(String tests) {
        return two("on * rank up if " + tests).decides(0, 0, 0, 0, 1);
    }

    private static void testsOneOrAll() {
        check.sentence(0, "its TESTS (all for and, one for or) hold");
        check.same("none are told", two("on * rank up").decides(0, 0, 0, 0, 1), 1);
        String yes = "a.kind=2";
        String no = "a.kind=3";
        for (int n = 1; n <= 4; n++) {
            for (int which = 0; which < 1 << n; which++) {
                String and = "";
                String or = "";
                for (int i = 0; i < n; i++) {
                    String test = (which >> i & 1) == 1 ? yes : no;
                    and += (i > 0 ? " and " : "") + test;
                    or += (i > 0 ? " or " : "") + test;
                }
                check.same(and, with(and), which == (1 << n) - 1 ? 1 : 0);
                check.same(or, with(or), which != 0 ? 1 : 0);
            }
        }
        check.same("not of each one alone", with("not " + no + " and " + yes), 1);
        check.same("not of each one alone", with("not " + yes + " and " + no), 0);
        check.same("not of each one alone", with("not " + yes + " or " + yes), 1);
    }

    private static void testNumbers() {
        check.sentence(0, "one of = < >, and a number of 1 to 8 digits");
        check.same("a greater one", with("a.kind<2"), 0);
        check.same("less", with("a.kind<3"), 1);
        check.same("like", with("a.kind=2"), 1);
        check.same("less than it", with("a.kind=1"), 0);
        check.same("greater", with("a.kind>1"), 1);
        check.same("not greater", with("a.kind>2"), 0);
        check.same("not like", with("not a.kind=2"), 0);
        check.same("zeros ahead", with("a.kind=00000002"), 1);
        check.same("none is less than 0", with("a.rank<0"), 0);
        check.same("0 is like 0", with("a.rank=0 and b.rank=9"), 1);
        check.same("the last digit counts", with("a.kind=20"), 0);
        check.same("no paper", with("a.paper=99999999"), 1);
        check.same("none is greater", with("a.paper>99999999"), 0);
        check.same("by one", with("a.paper>99999998"), 1);
        check.same("the greatest day", with("a.since=9999"), 1);
        check.same("the greatest name", with("a.name=99"), 1);
        check.same("the greatest tongue", with("a.tongue=7"), 1);
        check.same("no tongue 8", with("a.tongue>7"), 0);
        check.same("state 1", with("a.state=1"), 1);
        check.same("no state 2", with("a.state>1"), 0);
    }

    private static void eitherWay() {
        check.sentence(0, "(Its TESTS may hold with x as a and y as b, or with y as a and x as b.)");
        check.same("x as a", with("a.rank=0 and b.rank=9"), 1);
        check.same("y as a", with("a.rank=9 and b.rank=0"), 1);
        check.same("no half of each", with("a.rank=0 and a.rank=9"), 0);
        check.same("no half of each", with("a.rank=0 and b.rank=0"), 0);
        check.same("none of both", with("a.rank=0 and b.rank=8"), 0);
        check.same("a not of one way", with("not a.rank=0"), 1);
        check.same("a not of both ways", with("not a.rank=0 and not b.rank=0"), 0);
    }

    private static ProtocolDesk oneDay() {
        ProtocolDesk desk = Scene.people();
        Scene.rule(desk, "on * rank up", 2, 10);
        Scene.rule(desk, "on * name up", 2, 4);
        return desk;
    }

    private static void ends() {
        check.sentence(11, "A RULE is in force ahead of day to from now on: ahead of which it was.");
        ProtocolDesk desk = oneDay();
        check.same("the last day that is left", desk.ends(0, 9), 10);
        check.same("day 9", desk.decides(0, 0, 9, 0, 1), 0);
        check.same("day 8", desk.decides(0, 0, 8, 0, 1), 1);
        check.same("the first", desk.ends(0, 3), 9);
        check.same("its first day stays", desk.decides(0, 0, 2, 0, 1), 1);
        check.same("day 3", desk.decides(0, 0, 3, 0, 1), 0);
        check.same("the other rule stays", desk.decides(1, 0, 3, 0, 1), 1);
        check.same("nothing is left to take", desk.ends(0, 2), BAD);
        check.sentence(11, "NONE; BAD: to is not behind its first day, or not ahead of what it was.");
        check.range("to", RulesEdgesTest::oneDay, (d, to) -> d.ends(0, to), Check.edge(3, 10), Check.edge(9, 10), BAD);
        check.range("rule", RulesEdgesTest::oneDay, (d, r) -> d.ends(r, 3), Check.edge(0, 10), Check.edge(1, 4), NONE);
        check.range("rule of sixteen", Scene::full, (d, r) -> d.ends(r, 1), Check.edge(0, 5000), Check.edge(15, 5015), NONE);
        check.refused("NONE ahead of BAD", Scene::busy, d -> d.ends(2, -1), NONE);
        check.refused("NONE ahead of BAD", Scene::busy, d -> d.ends(-1, GREATEST), NONE);
        check.refused("no rule yet", Scene::people, d -> d.ends(0, 1), NONE);
        ProtocolDesk all = two("on * rank up");
        check.same("10000", all.ends(0, 10000), BAD);
        check.same("9999", all.ends(0, 9999), 10000);
        check.same("1", all.ends(0, 1), 9999);
        check.same("0", all.ends(0, 0), BAD);
        ProtocolDesk last = two();
        Scene.rule(last, "on * rank up", 9999, 10000);
        check.same("a rule of one day has none to take", last.ends(0, 9999), BAD);
        check.same("nor does it get one", last.ends(0, 10000), BAD);
    }

    private static void decides() {
        check.sentence(12, "Whether a RULE DECIDES for x and y: 1 x, -1 y is AHEAD, 0 it does not. -2: NONE; x is y.");
        check.range("rule", Scene::busy, (d, r) -> d.decides(r, 1, 5, 2, 0), Check.edge(0, 1), Check.edge(1, -1), NOT_TWO);
        check.range("rule of sixteen", Scene::full, (d, r) -> d.decides(r, 1, 5, 0, 2), Check.edge(0, -1), Check.edge(15, -1), NOT_TWO);
        check.refused("no rule yet", Scene::people, d -> d.decides(0, 0, 0, 0, 1), NOT_TWO);
        check.refused("nobody yet", ProtocolDesk::new, d -> d.decides(0, 0, 0, 0, 1), NOT_TWO);
        check.refused("all are wrong", Scene::busy, d -> d.decides(LEAST, GREATEST, LEAST, GREATEST, GREATEST), NOT_TWO);
        ProtocolDesk desk = Scene.busy();
        check.same("a hand does not count", desk.decides(0, 0, 5, 0, 5), 1);
        check.same("an absent one counts", desk.decides(0, 0, 5, 0, 4), 1);
    }

    private static void hands() {
        check.sentence(0, "by a HAND, if there is one (the latest of several)");
        ProtocolDesk desk = two("on * rank up");
        for (int h = 1; h <= 20; h++) {
            int x = h % 2;
            check.same("hand " + h, desk.hand(x, 1 - x), h);
            check.same("the latest, " + h, desk.ahead(0, 0, x, 1 - x), 1);
            check.same("turned, " + h, desk.ahead(0, 0, 1 - x, x), -1);
            check.same("why, " + h, desk.why(0, 0, 0, 1), 100);
        }
        check.same("a twenty-first", desk.hand(1, 0), FULL);
        check.same("the twentieth tells", desk.ahead(0, 0, 0, 1), 1);
        check.sentence(13, "A HAND tells that x is AHEAD of y (on all days): how many HANDS there are.");
        ProtocolDesk days = two();
        check.same("the first", days.hand(1, 0), 1);
        check.same("day 0", days.ahead(0, 0, 1, 0), 1);
        check.same("day 10000", days.ahead(9, 10000, 1, 0), 1);
        check.same("the greatest day", days.ahead(9, GREATEST, 1, 0), 1);
        check.same("the same once more is one more", days.hand(1, 0), 2);
        check.same("count", days.count(3), 2);
        ProtocolDesk busy = Scene.busy();
        check.same("an absent one, too", busy.hand(4, 3), 2);
        check.same("it tells", busy.ahead(0, 0, 3, 4), -1);
    }

    private static ProtocolDesk nineteenHands() {
        ProtocolDesk desk = Scene.people();
        for (int h = 0; h < 19; h++) {
            desk.hand(0, 1);
        }
        return desk;
    }

    private static ProtocolDesk twentyHands() {
        ProtocolDesk desk = nineteenHands();
        desk.hand(1, 2);
        return desk;
    }

    private static void handRefusals() {
        check.sentence(13, "NONE; BAD: x is y; FULL: 20.");
        check.same("a twentieth", nineteenHands().hand(5, 0), 20);
        check.refused("a twenty-first", RulesEdgesTest::twentyHands, d -> d.hand(5, 0), FULL);
        check.range("x", Scene::busy, (d, x) -> d.hand(x, 2), Check.edge(0, 2), Check.edge(5, 2), NONE);
        check.range("y", Scene::busy, (d, y) -> d.hand(2, y), Check.edge(0, 2), Check.edge(5, 2), NONE);
        check.refused("x is y", Scene::busy, d -> d.hand(0, 0), BAD);
        check.refused("x is y, the last", Scene::busy, d -> d.hand(5, 5), BAD);
        check.refused("NONE ahead of BAD", Scene::busy, d -> d.hand(6, 6), NONE);
        check.refused("NONE ahead of FULL, x", RulesEdgesTest::twentyHands, d -> d.hand(6, 0), NONE);
        check.refused("NONE ahead of FULL, y", RulesEdgesTest::twentyHands, d -> d.hand(0, -1), NONE);
        check.refused("BAD ahead of FULL", RulesEdgesTest::twentyHands, d -> d.hand(3, 3), BAD);
        check.refused("nobody yet", ProtocolDesk::new, d -> d.hand(0, 1), NONE);
    }

    private static void whichGoes() {
        check.sentence(0, "else by the RULE that DECIDES which GOES: with a digit ahead of *, of like ones the greatest number.");
        ProtocolDesk desk = two("on 3 rank down", "on * rank up", "on * since up");
        check.same("a lesser number with a digit", desk.why(3, 0, 0, 1), 0);
        check.same("it says", desk.ahead(3, 0, 0, 1), -1);
        check.same("of like ones the greatest", desk.why(4, 0, 0, 1), 2);
        ProtocolDesk late = two("on * rank up", "on 3 rank down", "on 3 since down");
        check.same("of like digits the greatest", late.why(3, 0, 0, 1), 2);
        check.same("it says", late.ahead(3, 0, 0, 1), 1);
        ProtocolDesk held = two("on 3 rank up", "on 3 rank down if a.rank=5", "on 3 kind up", "on 4 rank down");
        check.same("only one that decides", held.why(3, 0, 0, 1), 0);
        ProtocolDesk full = two();
        for (int r = 0; r < 16; r++) {
            Scene.rule(full, r == 0 ? "on 3 rank up" : "on * rank down");
        }
        check.same("the first of sixteen, with a digit", full.why(3, 0, 0, 1), 0);
        check.same("the last of sixteen", full.why(4, 0, 0, 1), 15);
        check.sentence(0, "If none DECIDES neither is AHEAD.");
        check.same("no rule", two().ahead(0, 0, 0, 1), 0);
        check.same("none that decides", two("on 1 rank up", "on * kind up").ahead(0, 0, 0, 1), 0);
    }

    private static void ahead() {
        check.sentence(14, "1 x, -1 y is AHEAD, 0 neither. -2: NONE; x is y.");
        check.refused("all are wrong", Scene::busy, d -> d.ahead(GREATEST, LEAST, LEAST, LEAST), NOT_TWO);
        check.refused("nobody yet", ProtocolDesk::new, d -> d.ahead(0, 0, 0, 1), NOT_TWO);
        check.same("the last two of twenty", Scene.full().ahead(0, 0, 19, 18), 1);
        check.same("turned", Scene.full().ahead(0, 0, 18, 19), -1);
        check.refused("a twenty-first", Scene::full, d -> d.ahead(0, 0, 20, 18), NOT_TWO);
        check.same("an absent one, too", Scene.busy().ahead(0, 0, 4, 0), -1);
    }

    private static void why() {
        check.sentence(15, "The RULE that GOES; 100: a HAND; NONE: none, none such.");
        check.same("rule 0", Scene.busy().why(0, 0, 0, 1), 0);
        check.same("rule 1 from its first day on", Scene.busy().why(1, 2, 0, 1), 1);
        check.same("not the day before", Scene.busy().why(1, 1, 0, 1), 0);
        check.same("a hand", Scene.busy().why(1, 2, 5, 0), 100);
        check.same("none", Scene.busy().why(1, 9000, 0, 1), NONE);
        check.refused("all are wrong", Scene::busy, d -> d.why(GREATEST, LEAST, LEAST, LEAST), NONE);
        check.refused("nobody yet", ProtocolDesk::new, d -> d.why(0, 0, 0, 1), NONE);
    }

    private static void quarrels() {
        check.sentence(16, "With which RULE that one QUARRELS, the least one. NONE: none.");
        check.same("no rule", two().quarrel(0, 0, 0, 1), NONE);
        check.same("itself alone", two("on * rank up").quarrel(0, 0, 0, 1), NONE);
        check.same("another that says the same", two("on * rank up", "on * name up").quarrel(0, 0, 0, 1), NONE);
        check.same("one that does not decide", two("on * rank up if a.kind=0", "on * rank down").quarrel(0, 0, 0, 1), NONE);
        check.same("one for another occasion", two("on 1 rank up", "on * rank down").quarrel(0, 0, 0, 1), NONE);
        check.same("a lesser one", two("on * rank up", "on * rank down").quarrel(0, 0, 0, 1), 0);
        check.same("a greater one with *", two("on 0 rank up", "on * rank down").quarrel(0, 0, 0, 1), 1);
        check.same("the least of several", two("on * rank down", "on * rank up", "on * name up", "on * rank down")
            .quarrel(0, 0, 1, 0), 1);
        ProtocolDesk full = two();
        for (int r = 0; r < 15; r++) {
            Scene.rule(full, "on 3 rank up");
        }
        Scene.rule(full, "on * rank down");
        check.same("the last of sixteen", full.quarrel(3, 0, 0, 1), 15);
        check.same("none on another occasion", full.quarrel(4, 0, 0, 1), NONE);
        ProtocolDesk hand = two("on * rank up", "on * rank down");
        hand.hand(0, 1);
        check.same("no rule goes where a hand tells it", hand.quarrel(0, 0, 0, 1), NONE);
        check.refused("all are wrong", Scene::busy, d -> d.quarrel(GREATEST, LEAST, LEAST, LEAST), NONE);
        check.refused("nobody yet", ProtocolDesk::new, d -> d.quarrel(0, 0, 0, 1), NONE);
    }
}

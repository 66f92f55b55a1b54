/** Promises 8 to 13. */
public final class RulesTest {
    private static final int NONE = ProtocolDesk.NONE;
    private static final int BAD = ProtocolDesk.BAD;
    private static final int FULL = ProtocolDesk.FULL;
    private static final Check check = new Check();

    public static void main(String[] args) {
        feedAndWipe();
        goodTexts();
        faults();
        ruleRefusals();
        ends();
        daysAndOccasions();
        keysAndWays();
        tests();
        decidesRefusals();
        hand();
        check.finish();
    }

    private static void feedAndWipe() {
        ProtocolDesk desk = new ProtocolDesk();
        check.same("8: the highest byte first", desk.feed(0x5A6F6E20L, 3), 3);
        check.same("8: the rest", desk.feed(0x2A2072616E6B2075L, 8), 11);
        check.same("8: one", desk.feed('p', 1), 12);
        check.same("8: they are read in that sequence", desk.rule(0, 1), 0);
        for (int i = 1; i <= 25; i++) {
            check.same("8: many", desk.feed(-1L, 8), 8 * i);
        }
        check.same("8: FULL", desk.feed(0, 1), FULL);
        check.same("8: BAD ahead of FULL", desk.feed(0, 9), BAD);
        check.same("9: what it had", desk.wipe(), 200);
        check.same("9: empty", desk.wipe(), 0);
        check.same("8: 200 only", fillTo(desk, 193), 193);
        check.same("8: one byte too many", desk.feed(0, 8), FULL);
        check.same("8: none of them came", desk.count(6), 193);
        check.same("8: just as many as there is room for", desk.feed(0, 7), 200);
        check.refused("8: n 0", Scene::busy, d -> d.feed(1, 0), BAD);
        check.refused("8: n 9", Scene::busy, d -> d.feed(1, 9), BAD);
        check.refused("8: n -1", Scene::busy, d -> d.feed(1, -1), BAD);
    }

    private static int fillTo(ProtocolDesk desk, int bytes) {
        int has = 0;
        for (int i = 0; i < bytes; i++) {
            has = desk.feed(0, 1);
        }
        return has;
    }

    private static void goodTexts() {
        String[] texts = {
            "on 3 rank up if a.kind=0 and not b.rank<2",
            "on * paper down",
            "on 0 name up if a.paper>99999999",
            "on 9 since down if not a.name<0 or b.since>1 or not b.state=00000000 or a.tongue=7",
            "on * kind up if a.rank=1 and a.rank=2 and a.rank=3 and a.rank=4",
        };
        ProtocolDesk desk = new ProtocolDesk();
        for (int i = 0; i < texts.length; i++) {
            check.same("10: " + texts[i], Scene.rule(desk, texts[i]), i);
            check.same("10: the tape is empty then", desk.count(6), 0);
        }
        check.same("10: count", desk.count(2), texts.length);
    }

    /** Each text with a sign | ahead of the fault. */
    private static void faults() {
        String[] texts = {
            "|", "|x", "o|", "o|m", "on|", "on|3", "on |", "on |  3", "on |x", "on |-1", "on 3|", "on 1|2 rank up",
            "on 3 |", "on 3 |tongue up", "on 3 ran|g up", "on 3 s|tate up", "on 3 rank|",
            "on 3 rank |", "on 3 rank |left", "on 3 rank u|", "on 3 rank up|p", "on 3 rank up |",
            "on 3 rank d|up", "on 3 rank up | if", "on 3 rank up i|", "on 3 rank up if|", "on 3 rank up if |",
            "on 3 rank up |and a.rank=1", "on 3 rank up if |c.rank=1", "on 3 rank up if n|",
            "on 3 rank up if not|", "on 3 rank up if not |", "on 3 rank up if not |not a.rank=1",
            "on 3 rank up if not|a.rank=1", "on 3 rank up if a|", "on 3 rank up if a| .rank=1",
            "on 3 rank up if a.|", "on 3 rank up if a.s|o=1", "on 3 rank up if a.sta|r=1",
            "on 3 rank up if a.since|", "on 3 rank up if a.state|d=1", "on 3 rank up if a.rank| =1",
            "on 3 rank up if a.rank=|", "on 3 rank up if a.rank=|=1", "on 3 rank up if a.rank<|=1",
            "on 3 rank up if a.rank=|-1", "on 3 rank up if a.rank=12345678|9", "on 3 rank up if a.rank=1|x",
            "on 3 rank up if a.rank=1 |", "on 3 rank up if a.rank=1 |b.rank=1",
            "on 3 rank up if a.rank=1 a|", "on 3 rank up if a.rank=1 a|.rank=1", "on 3 rank up if a.rank=1 o|n",
            "on 3 rank up if a.rank=1 and|", "on 3 rank up if a.rank=1 and |",
            "on 3 rank up if a.rank=1 and a.rank=1 |or a.rank=1",
            "on 3 rank up if a.rank=1 or a.rank=1 |and a.rank=1",
            "on 3 rank up if a.rank=1 or a.rank=1 or a.rank=1 or a.rank=1| or a.rank=1",
            "on 3 rank up if a.rank=1 or a.rank=1 or a.rank=1 or a.rank=1| ",
            "|ON 3 rank up", "on 3 |Rank up", "on 3 rank up|\n", "on|\t3",
            "on 3 rank up if a.rank=1|" + (char) 0, "on 3 rank up if a.rank=1|" + (char) 255,
        };
        ProtocolDesk desk = new ProtocolDesk();
        for (String text : texts) {
            int place = text.indexOf('|');
            String told = text.substring(0, place) + text.substring(place + 1);
            check.same("10: " + text, Scene.rule(desk, told), -10 - place);
            check.same("10: the tape is empty behind a fault", desk.count(6), 0);
        }
        check.same("10: no rule came", desk.count(2), 0);
        fillTo(desk, 200);
        check.same("10: a full tape of zeros", desk.rule(0, 1), -10);
    }

    private static ProtocolDesk sixteenRules() {
        ProtocolDesk desk = Scene.busy();
        desk.wipe();
        for (int r = 2; r < 16; r++) {
            check.same("10: number", Scene.rule(desk, "on * rank up"), r);
        }
        return desk;
    }

    private static void ruleRefusals() {
        check.refused("10: from is to", Scene::busy, d -> d.rule(5, 5), BAD);
        check.refused("10: from behind to", Scene::busy, d -> d.rule(6, 5), BAD);
        check.refused("10: from -1", Scene::busy, d -> d.rule(-1, 5), BAD);
        check.refused("10: to 10001", Scene::busy, d -> d.rule(0, 10001), BAD);
        check.refused("10: the least number", Scene::busy, d -> d.rule(0, Integer.MIN_VALUE), BAD);
        check.refused("10: FULL", RulesTest::sixteenRules, d -> d.rule(0, 1), FULL);
        ProtocolDesk desk = sixteenRules();
        Scene.write(desk, "on");
        check.same("10: FULL ahead of a fault", desk.rule(0, 1), FULL);
        check.same("10: the tape stays", desk.count(6), 2);
        check.same("10: BAD ahead of FULL", desk.rule(1, 1), BAD);
        check.same("10: the tape stays", desk.wipe(), 2);
        check.same("10: all days", Scene.rule(new ProtocolDesk(), "on * rank up", 0, 10000), 0);
        check.same("10: the last day", Scene.rule(new ProtocolDesk(), "on * rank up", 9999, 10000), 0);
    }

    private static void ends() {
        ProtocolDesk desk = Scene.people();
        Scene.rule(desk, "on * rank up", 10, 100);
        check.same("11: in force", desk.decides(0, 0, 60, 0, 1), 1);
        check.same("11: ahead of which it was", desk.ends(0, 60), 100);
        check.same("11: no more in force", desk.decides(0, 0, 60, 0, 1), 0);
        check.same("11: the day ahead", desk.decides(0, 0, 59, 0, 1), 1);
        check.same("11: the same day", desk.ends(0, 60), BAD);
        check.same("11: a later one", desk.ends(0, 61), BAD);
        check.same("11: its first day", desk.ends(0, 10), BAD);
        check.same("11: one day is left", desk.ends(0, 11), 60);
        check.same("11: its one day", desk.decides(0, 0, 10, 0, 1), 1);
        check.refused("11: no such rule", Scene::busy, d -> d.ends(2, 5), NONE);
        check.refused("11: rule -1", Scene::busy, d -> d.ends(-1, 5), NONE);
        check.refused("11: not behind its first day", Scene::busy, d -> d.ends(1, 2), BAD);
        check.refused("11: not ahead of what it was", Scene::busy, d -> d.ends(0, 5000), BAD);
    }

    private static void daysAndOccasions() {
        ProtocolDesk desk = Scene.people();
        Scene.rule(desk, "on 3 rank up", 10, 20);
        Scene.rule(desk, "on * rank up", 9999, 10000);
        check.same("12: its first day", desk.decides(0, 3, 10, 0, 1), 1);
        check.same("12: the day before", desk.decides(0, 3, 9, 0, 1), 0);
        check.same("12: its last day", desk.decides(0, 3, 19, 0, 1), 1);
        check.same("12: the day behind", desk.decides(0, 3, 20, 0, 1), 0);
        check.same("12: another occasion", desk.decides(0, 4, 10, 0, 1), 0);
        check.same("12: day 9999", desk.decides(1, 9, 9999, 0, 1), 1);
        check.same("12: a day behind all", desk.decides(1, 9, 10000, 0, 1), 0);
        check.same("12: the greatest day", desk.decides(1, 9, Integer.MAX_VALUE, 0, 1), 0);
    }

    private static void keysAndWays() {
        ProtocolDesk desk = Scene.people();
        String[] keys = {"rank", "paper", "name", "since", "kind"};
        int[] upOf0And5 = {1, -1, -1, -1, 1};
        for (int k = 0; k < keys.length; k++) {
            int up = Scene.rule(desk, "on * " + keys[k] + " up");
            int down = Scene.rule(desk, "on * " + keys[k] + " down");
            check.same("12: " + keys[k] + " up", desk.decides(up, 0, 0, 0, 5), upOf0And5[k]);
            check.same("12: " + keys[k] + " up, turned", desk.decides(up, 0, 0, 5, 0), -upOf0And5[k]);
            check.same("12: " + keys[k] + " down", desk.decides(down, 0, 0, 0, 5), -upOf0And5[k]);
        }
        check.same("12: like ranks", desk.decides(0, 0, 0, 0, 3), 0);
        check.same("12: like papers", desk.decides(2, 0, 0, 1, 2), 0);
        desk.there(5, 0);
        check.same("12: an absent one, too", desk.decides(0, 0, 0, 0, 5), 1);
    }

    /** By name 0 (5) is ahead of 1 (9), whenever the tests hold. */
    private static void tests() {
        String[] hold = {
            "a.kind=0", "a.rank<4", "b.rank>8", "a.rank=9", "not a.rank=5", "a.paper=7000", "b.paper=7000",
            "a.since=50", "a.state=1", "a.tongue=1", "a.name=9", "a.name=009",
            "a.rank=3 and b.rank=9", "b.rank=3 and a.rank=9", "a.rank=5 or b.rank=9",
            "a.rank=5 or a.rank=6 or a.rank=7 or not a.rank=8",
            "a.rank=3 and b.rank=9 and a.state=0 and not b.state=0",
            "a.paper<99999999", "not a.paper>7000",
        };
        String[] fail = {
            "a.kind=1", "a.rank<3", "b.rank>9", "not a.kind=0", "a.rank=3 and a.rank=9",
            "a.rank=3 and b.rank=3", "a.rank=3 and b.rank=9 and a.state=1", "a.rank=5 or a.rank=6",
            "a.state=0 and b.tongue=0", "a.paper>99999999", "not a.rank=3 and not b.rank=9 and a.state=0",
        };
        for (String test : hold) {
            ProtocolDesk desk = Scene.people();
            Scene.rule(desk, "on * name up if " + test);
            check.same("12: if " + test, desk.decides(0, 0, 0, 0, 1), 1);
            check.same("12: turned, if " + test, desk.decides(0, 0, 0, 1, 0), -1);
        }
        for (String test : fail) {
            ProtocolDesk desk = Scene.people();
            Scene.rule(desk, "on * name up if " + test);
            check.same("12: if " + test, desk.decides(0, 0, 0, 0, 1), 0);
            check.same("12: turned, if " + test, desk.decides(0, 0, 0, 1, 0), 0);
        }
    }

    private static void decidesRefusals() {
        ProtocolDesk desk = Scene.busy();
        check.same("12: rule 2", desk.decides(2, 0, 0, 0, 1), -2);
        check.same("12: rule -1", desk.decides(-1, 0, 0, 0, 1), -2);
        check.same("12: occasion 10", desk.decides(0, 10, 0, 0, 1), -2);
        check.same("12: occasion -1", desk.decides(0, -1, 0, 0, 1), -2);
        check.same("12: day -1", desk.decides(0, 0, -1, 0, 1), -2);
        check.same("12: x nobody", desk.decides(0, 0, 0, 6, 1), -2);
        check.same("12: y nobody", desk.decides(0, 0, 0, 0, -1), -2);
        check.same("12: x is y", desk.decides(0, 0, 0, 1, 1), -2);
    }

    private static ProtocolDesk twentyHands() {
        ProtocolDesk desk = Scene.busy();
        for (int h = 2; h <= 20; h++) {
            check.same("13: hands", desk.hand(1, 2), h);
        }
        return desk;
    }

    private static void hand() {
        ProtocolDesk desk = twentyHands();
        check.same("13: count", desk.count(3), 20);
        check.same("13: NONE ahead of FULL", desk.hand(6, 0), NONE);
        check.same("13: BAD ahead of FULL", desk.hand(0, 0), BAD);
        check.refused("13: a twenty-first", RulesTest::twentyHands, d -> d.hand(2, 1), FULL);
        check.refused("13: x nobody", Scene::busy, d -> d.hand(6, 1), NONE);
        check.refused("13: y nobody", Scene::busy, d -> d.hand(0, -1), NONE);
        check.refused("13: NONE ahead of BAD", Scene::busy, d -> d.hand(6, 6), NONE);
        check.refused("13: x is y", Scene::busy, d -> d.hand(1, 1), BAD);
    }
}

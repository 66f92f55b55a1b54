/** The boundary cases of THE TAPE and of the text of a RULE: promises 8 to 10. */
public final class TapeEdgesTest {
    private static final int BAD = ProtocolDesk.BAD;
    private static final int FULL = ProtocolDesk.FULL;
    private static final Check check = new Check();

    public static void main(String[] args) {
        feed();
        feedBytes();
        twoHundredBytes();
        wipe();
        eachByteOfARule();
        blanks();
        occasions();
        keysAndWays();
        testsOfARule();
        mixtures();
        fields();
        numbers();
        faultPlaces();
        longestText();
        rule();
        ruleBehindAFault();
        ruleDays();
        sixteenRules();
        check.finish();
    }

    private static void feed() {
        check.sentence(8, "The n lowest bytes of w, the highest first, come behind THE TAPE's: how many it has.");
        for (int n = 1; n <= 8; n++) {
            check.same(n + " bytes", new ProtocolDesk().feed(-1L, n), n);
        }
        ProtocolDesk desk = new ProtocolDesk();
        check.same("eight", desk.feed(0x6F6E202A2072616EL, 8), 8);
        check.same("four of eight, the lowest", desk.feed(0x787878786B207570L, 4), 12);
        check.same("they are a rule, the highest byte first", desk.rule(0, 1), 0);
        ProtocolDesk one = new ProtocolDesk();
        String text = "on 9 paper down";
        for (int i = 0; i < text.length(); i++) {
            check.same("one by one", one.feed(0x7070707070707000L | text.charAt(i), 1), i + 1);
        }
        check.same("they are a rule", one.rule(0, 1), 0);
        check.sentence(8, "BAD: n not 1 .. 8; FULL.");
        check.range("n", Scene::busy, (d, n) -> d.feed(0, n), Check.edge(1, 8), Check.edge(8, 15), BAD);
        check.refused("BAD ahead of FULL, 0", Scene::full, d -> d.feed(0, 0), BAD);
        check.refused("BAD ahead of FULL, 9", Scene::full, d -> d.feed(0, 9), BAD);
        check.refused("BAD ahead of FULL, the greatest", Scene::full, d -> d.feed(0, Integer.MAX_VALUE), BAD);
        check.refused("FULL", Scene::full, d -> d.feed(0, 1), FULL);
        check.refused("FULL, eight", Scene::full, d -> d.feed(Long.MIN_VALUE, 8), FULL);
    }

    /** The least and the greatest long: a byte with its highest bit is no sign of a text. */
    private static void feedBytes() {
        check.sentence(0, "THE TAPE (bytes, 200 at most)");
        long[] words = {Long.MIN_VALUE, Long.MAX_VALUE, 0L, -1L};
        for (long w : words) {
            ProtocolDesk desk = new ProtocolDesk();
            check.same("eight of " + w, desk.feed(w, 8), 8);
            check.same("no rule begins so", desk.rule(0, 1), -10);
            check.same("one of " + w, desk.feed(w, 1), 1);
            check.same("no rule begins so", desk.rule(0, 1), -10);
        }
        ProtocolDesk desk = new ProtocolDesk();
        desk.feed(0xEF6EL, 2);
        check.same("o with its highest bit", desk.rule(0, 1), -10);
        desk.feed(0x6FEEL, 2);
        check.same("n with its highest bit", desk.rule(0, 1), -11);
    }

    private static void twoHundredBytes() {
        check.sentence(0, "THE TAPE (bytes, 200 at most)");
        for (int n = 1; n <= 8; n++) {
            ProtocolDesk fits = tapeOf(200 - n);
            check.same(n + " bytes fit", fits.feed(0, n), 200);
            check.same("no more", fits.feed(0, 1), FULL);
            int bytes = n;
            check.refused(n + " bytes are one too many", () -> tapeOf(201 - bytes), d -> d.feed(0, bytes), FULL);
        }
        ProtocolDesk desk = tapeOf(199);
        check.same("two do not fit", desk.feed(0, 2), FULL);
        check.same("one fits still", desk.feed(0, 1), 200);
        check.same("count", desk.count(6), 200);
    }

    private static ProtocolDesk tapeOf(int bytes) {
        ProtocolDesk desk = new ProtocolDesk();
        int whole = bytes / 8;
        for (int i = 0; i < whole; i++) {
            desk.feed(0, 8);
        }
        if (bytes % 8 != 0) {
            desk.feed(0, bytes % 8);
        }
        return desk;
    }

    private static void wipe() {
        check.sentence(9, "THE TAPE is empty: how many bytes it had.");
        check.same("an empty one", new ProtocolDesk().wipe(), 0);
        check.same("of one byte", tapeOf(1).wipe(), 1);
        ProtocolDesk desk = tapeOf(200);
        check.same("a full one", desk.wipe(), 200);
        check.same("empty then", desk.count(6), 0);
        check.same("again", desk.wipe(), 0);
        check.same("it begins anew", Scene.rule(desk, "on * rank up"), 0);
    }

    private static int read(String text) {
        return Scene.rule(new ProtocolDesk(), text, 0, 1);
    }

    /** Reads a text with a sign | ahead of its fault. */
    private static void fault(String marked) {
        int place = marked.indexOf('|');
        String text = marked.substring(0, place) + marked.substring(place + 1);
        check.same("'" + marked + "'", read(text), -10 - place);
    }

    private static void good(String text) {
        check.same("'" + text + "'", read(text), 0);
    }

    /** At each place of a text all 256 bytes are tried: those that may stand there, and all others. */
    private static void eachByteOfARule() {
        check.sentence(0, "(So: on 3 rank up if a.kind=0 and not b.rank<2)");
        String text = "on 3 rank up if a.kind=0 and not b.rank<2";
        good(text);
        String digits = "0123456789";
        String[] may = {
            "o", "n", " ", "*" + digits, " ", "rpnsk", "a", "n", "k", " ", "ud", "p", " ", "i", "f", " ",
            "abn", ".", "rpnskt", "i", "n", "d", "=<>", digits, " " + digits, "ao", "n", "d", " ",
            "abn", "o", "t", " ", "ab", ".", "rpnskt", "a", "n", "k", "=<>", digits, " " + digits,
        };
        for (int place = 0; place < may.length; place++) {
            String begin = text.substring(0, Math.min(place, text.length()));
            for (int b = 0; b < 256; b++) {
                int answer = read(begin + (char) b);
                boolean fits = may[place].indexOf(b) >= 0;
                boolean asDue = fits ? answer == 0 || answer == -11 - place : answer == -10 - place;
                check.isTrue("'" + begin + "' and byte " + b + " answered " + answer + ", is as due", asDue);
            }
        }
    }

    private static void blanks() {
        check.sentence(0, "WORDS with one blank (32) between, no other");
        fault("| on * rank up");
        fault("on | * rank up");
        fault("on * | rank up");
        fault("on * rank | up");
        fault("on * rank up |");
        fault("on * rank up | if a.rank=1");
        fault("on * rank up if | a.rank=1");
        fault("on * rank up if not | a.rank=1");
        fault("on * rank up if a.rank=1 | and a.rank=1");
        fault("on * rank up if a.rank=1 and | a.rank=1");
        fault("on * rank up if a.rank=1 |");
        fault("on|* rank up");
        fault("on *|rank up");
        fault("on * rank|up");
        fault("on * rank up|if a.rank=1");
        fault("on * rank up if|a.rank=1");
        fault("on * rank up if not|a.rank=1");
        fault("on * rank up if a.rank=1|and a.rank=1");
        fault("on * rank up if a.rank=1 and|a.rank=1");
        char[] others = {9, 10, 13, 31, 33, 160, 0};
        for (char other : others) {
            fault("on|" + other + "* rank up");
            fault("on * rank up|" + other);
        }
    }

    private static void occasions() {
        check.sentence(0, "OCC: * or a digit");
        for (char occ = '0'; occ <= '9'; occ++) {
            good("on " + occ + " rank up");
        }
        good("on * rank up");
        fault("on |/ rank up");
        fault("on |: rank up");
        fault("on |) rank up");
        fault("on |+ rank up");
        fault("on 1|0 rank up");
        fault("on *|* rank up");
        fault("on 0|* rank up");
        fault("on |-1 rank up");
    }

    private static void keysAndWays() {
        check.sentence(0, "KEY: rank paper name since kind");
        String[] keys = {"rank", "paper", "name", "since", "kind"};
        for (String key : keys) {
            good("on 0 " + key + " up");
            good("on 0 " + key + " down");
            fault("on 0 " + key + "|");
            fault("on 0 " + key + "|s up");
            fault("on 0 " + key.substring(0, key.length() - 1) + "| up");
        }
        fault("on 0 s|tate up");
        fault("on 0 |tongue up");
        fault("on 0 |Rank up");
        check.sentence(0, "DIR: up down");
        fault("on 0 rank u|");
        fault("on 0 rank dow|");
        fault("on 0 rank d|p");
        fault("on 0 rank u|own");
        fault("on 0 rank up|down");
        fault("on 0 rank down|n");
        fault("on 0 rank |Up");
    }

    private static void testsOfARule() {
        check.sentence(0, "or if TEST and TEST .. (or if TEST or TEST ..; no mixture), 4 TESTS at most.");
        String one = "a.rank=1";
        String[] joints = {" and ", " or "};
        for (String joint : joints) {
            String text = "on 0 rank up if " + one;
            good(text);
            for (int n = 2; n <= 4; n++) {
                text += joint + one;
                good(text);
            }
            fault(text + "|" + joint + one);
            fault(text + "| ");
            fault(text + "|" + joint.substring(0, 2));
        }
        good("on 0 rank up");
        fault("on 0 rank up if|");
        fault("on 0 rank up if |");
        fault("on 0 rank up if a|nd a.rank=1");
        fault("on 0 rank up if |or a.rank=1");
        fault("on 0 rank up if |if a.rank=1");
        fault("on 0 rank up if a.rank=1 |if a.rank=1");
    }

    private static void mixtures() {
        check.sentence(0, "no mixture");
        fault("on 0 rank up if a.rank=1 and a.rank=1 |or a.rank=1");
        fault("on 0 rank up if a.rank=1 or a.rank=1 |and a.rank=1");
        fault("on 0 rank up if a.rank=1 and a.rank=1 and a.rank=1 |or a.rank=1");
        fault("on 0 rank up if a.rank=1 or a.rank=1 or a.rank=1 |and a.rank=1");
        fault("on 0 rank up if a.rank=1 and |or a.rank=1");
        fault("on 0 rank up if a.rank=1 or a|nd a.rank=1");
        good("on 0 rank up if not a.rank=1 or not a.rank=1 or not a.rank=1 or not a.rank=1");
        good("on 0 rank up if a.rank=1 and not a.rank=1 and b.rank=1 and not b.rank=1");
    }

    private static void fields() {
        check.sentence(0, "a TEST: perhaps not and a blank, then a or b, a point, a FIELD (rank paper name since kind state tongue), "
            + "one of = < >,");
        String[] fields = {"rank", "paper", "name", "since", "kind", "state", "tongue"};
        for (String field : fields) {
            good("on 0 rank up if a." + field + "=0");
            good("on 0 rank up if not b." + field + "<1");
            good("on 0 rank up if a." + field + ">2");
            fault("on 0 rank up if a." + field + "|");
            fault("on 0 rank up if a." + field + "|;1");
            fault("on 0 rank up if a." + field + "|?1");
            fault("on 0 rank up if a." + field + "| =1");
            fault("on 0 rank up if a." + field.substring(0, field.length() - 1) + "|=1");
        }
        fault("on 0 rank up if |`.rank=1");
        fault("on 0 rank up if |c.rank=1");
        fault("on 0 rank up if not |not a.rank=1");
        fault("on 0 rank up if not |c.rank=1");
        fault("on 0 rank up if a|-rank=1");
        fault("on 0 rank up if a|/rank=1");
        fault("on 0 rank up if a.|.rank=1");
        fault("on 0 rank up if a.| rank=1");
        fault("on 0 rank up if a.rank=|=1");
        fault("on 0 rank up if a.rank<|>1");
        fault("on 0 rank up if a.rank>|=1");
    }

    private static void numbers() {
        check.sentence(0, "a number of 1 to 8 digits, all together without blanks.");
        String digits = "";
        for (int n = 1; n <= 8; n++) {
            digits += "9";
            good("on 0 rank up if a.rank=" + digits);
            good("on 0 rank up if a.rank=" + digits + " and b.rank<0");
        }
        good("on 0 rank up if a.rank=00000000");
        fault("on 0 rank up if a.rank=99999999|9");
        fault("on 0 rank up if a.rank=00000000|0");
        fault("on 0 rank up if a.rank=00000000|1 and a.rank=1");
        fault("on 0 rank up if a.rank=|");
        fault("on 0 rank up if a.rank=| 1");
        fault("on 0 rank up if a.rank=|/");
        fault("on 0 rank up if a.rank=|:");
        fault("on 0 rank up if a.rank=1|/");
        fault("on 0 rank up if a.rank=1|:");
        fault("on 0 rank up if a.rank=|-1");
        fault("on 0 rank up if a.rank=|+1");
        fault("on 0 rank up if a.rank=1 |1");
    }

    private static void faultPlaces() {
        check.sentence(0, "The FAULT is the place of the first byte with which no RULE begins so "
            + "(the end of THE TAPE, if it ends too early).");
        String text = "on 3 paper down if not a.tongue>12345678 or b.since<0";
        boolean[] whole = new boolean[text.length() + 1];
        whole["on 3 paper down".length()] = true;
        for (int n = 1; n <= 8; n++) {
            whole["on 3 paper down if not a.tongue>".length() + n] = true;
        }
        whole[text.length()] = true;
        for (int end = 0; end <= text.length(); end++) {
            String begin = text.substring(0, end);
            check.same("'" + begin + "'", read(begin), whole[end] ? 0 : -10 - end);
        }
        fault("|");
        fault("|x");
        fault("|xon 3 rank up");
        ProtocolDesk desk = new ProtocolDesk();
        Scene.fillTape(desk);
        check.same("a full tape", desk.rule(0, 1), -13);
    }

    /** The longest text of all has 118 bytes; what else is on a full tape is a fault behind it. */
    private static void longestText() {
        check.sentence(0, "THE TAPE (bytes, 200 at most)");
        String test = "not a.tongue=12345678";
        String text = "on 3 since down if " + test + " and " + test + " and " + test + " and " + test;
        check.same("its length", text.length(), 118);
        good(text);
        String full = text;
        while (full.length() < 200) {
            full += " ";
        }
        check.same("with blanks behind it", read(full), -10 - 118);
        check.same("with a digit behind it", read(text + "9"), -10 - 118);
    }

    private static void rule() {
        check.sentence(10, "THE TAPE, which is empty then, is a RULE, in force from a day on, ahead of another one: its number; "
            + "-10 less the FAULT (THE TAPE is empty then, too).");
        ProtocolDesk desk = new ProtocolDesk();
        check.same("an empty tape", desk.rule(0, 1), -10);
        Scene.write(desk, "on * rank up");
        check.same("the first", desk.rule(0, 1), 0);
        check.same("the tape is empty", desk.count(6), 0);
        check.same("it is no rule again", desk.rule(0, 1), -10);
        Scene.write(desk, "on * rank upp");
        check.same("a fault", desk.rule(0, 1), -22);
        check.same("the tape is empty", desk.count(6), 0);
        check.same("no rule came", desk.count(2), 1);
        Scene.write(desk, "on * rank up");
        check.same("the second", desk.rule(0, 1), 1);
    }

    /** What was read ahead of a fault is forgotten: the next rule is as its own text tells. */
    private static void ruleBehindAFault() {
        check.sentence(10, "-10 less the FAULT (THE TAPE is empty then, too).");
        String[] faults = {
            "on 7 name down if a.rank=5 or b.rank=5 or a.rank=5 or b.rank=5 ",
            "on 7 name down if not a.rank=3 and not b.rank=3 and a.kind=5!", "on 7 name down if a.rank=5", "on 7 name",
        };
        for (String text : faults) {
            ProtocolDesk desk = Scene.people();
            Scene.rule(desk, text + "|", 50, 60);
            check.same("behind '" + text + "'", Scene.rule(desk, "on * since up", 0, 1), 0);
            check.same("it decides for 0", desk.decides(0, 0, 0, 5, 0), 1);
            check.same("it decides for 1", desk.decides(0, 9, 0, 5, 1), 1);
            check.same("on its days alone", desk.decides(0, 7, 50, 5, 0), 0);
            Scene.rule(desk, text + "|", 50, 60);
            Scene.rule(desk, "on * since down if a.kind=2", 0, 1);
            check.same("one test of its own, which holds", desk.decides(1, 0, 0, 2, 0), -1);
            check.same("one test of its own, which does not", desk.decides(1, 0, 0, 0, 1), 0);
        }
    }

    private static void ruleDays() {
        check.sentence(10, "BAD: days; FULL.");
        check.sentence(0, "(0 <= first < other <= 10000)");
        int[][] taken = {{0, 1}, {0, 10000}, {9999, 10000}, {0, 9999}, {1, 2}, {5000, 5001}};
        for (int[] days : taken) {
            check.same(days[0] + " to " + days[1], Scene.rule(new ProtocolDesk(), "on * rank up", days[0], days[1]), 0);
        }
        int least = Integer.MIN_VALUE;
        int greatest = Integer.MAX_VALUE;
        int[][] wrong = {
            {0, 0}, {1, 1}, {10000, 10000}, {9999, 9999}, {2, 1}, {-1, 1}, {-1, 10000}, {0, 10001}, {9999, 10001},
            {10000, 10001}, {-1, 0}, {-2, -1}, {0, -1}, {least, 1}, {0, least}, {least, greatest}, {greatest, least},
            {0, greatest}, {greatest, greatest}, {least, least}, {greatest, 10000}, {-1, 10001},
        };
        for (int[] days : wrong) {
            check.refused(days[0] + " to " + days[1], Scene::busy, d -> d.rule(days[0], days[1]), BAD);
            check.refused(days[0] + " to " + days[1] + ", a rule on the tape", TapeEdgesTest::ruleOnTape,
                d -> d.rule(days[0], days[1]), BAD);
            check.refused(days[0] + " to " + days[1] + ", full", Scene::full, d -> d.rule(days[0], days[1]), BAD);
        }
        check.same("BAD ahead of a fault", new ProtocolDesk().rule(0, 0), BAD);
    }

    private static ProtocolDesk ruleOnTape() {
        ProtocolDesk desk = Scene.people();
        Scene.write(desk, "on * na");
        return desk;
    }

    private static ProtocolDesk sixteenAndAText() {
        ProtocolDesk desk = Scene.full();
        desk.wipe();
        Scene.write(desk, "on * rank up");
        return desk;
    }

    private static void sixteenRules() {
        check.sentence(0, "RULES are numbered from 0 on, 16 at most");
        ProtocolDesk desk = new ProtocolDesk();
        for (int r = 0; r < 16; r++) {
            check.same("none behind the last", desk.ends(r, 5), ProtocolDesk.NONE);
            check.same("a rule", Scene.rule(desk, "on * rank up", 0, 10), r);
            check.same("a fault takes no number", Scene.rule(desk, "on", 0, 10), r < 15 ? -12 : FULL);
            desk.wipe();
        }
        check.same("sixteen", desk.count(2), 16);
        check.same("the last is one", desk.ends(15, 5), 10);
        check.same("behind it is none", desk.ends(16, 5), ProtocolDesk.NONE);
        check.refused("a seventeenth", TapeEdgesTest::sixteenAndAText, d -> d.rule(0, 10000), FULL);
        check.refused("FULL, with a fault on the tape", Scene::full, d -> d.rule(0, 10000), FULL);
    }
}

/** The boundary cases of TABLES, FEUDS and TALK: promises 20 to 28. */
public final class TablesEdgesTest {
    private static final int NONE = ProtocolDesk.NONE;
    private static final int BAD = ProtocolDesk.BAD;
    private static final int STATE = ProtocolDesk.STATE;
    private static final int FULL = ProtocolDesk.FULL;
    private static final int NO_SUCH = -5;
    private static final int NO_WAY = -6;
    private static final int LEAST = Integer.MIN_VALUE;
    private static final int GREATEST = Integer.MAX_VALUE;
    private static final Check check = new Check();

    public static void main(String[] args) {
        fourTables();
        tableRefusals();
        seats();
        feud();
        talk();
        besideAndFacing();
        besideOnce();
        talkOfLikeTongues();
        sit();
        sitRefusals();
        absentOnes();
        price();
        priceOfPlaces();
        keeps();
        laySets();
        layWays();
        layStays();
        layRefusals();
        layTwoRefusals();
        close();
        seat();
        check.finish();
    }

    /** One guest of each of ten states, state s with tongue s, 8 and 9 with 0 and 1; without rules. */
    private static ProtocolDesk guests() {
        ProtocolDesk desk = new ProtocolDesk();
        for (int s = 0; s < 10; s++) {
            desk.state(s, s % 8);
            desk.person(s, 2, s, 0, 0);
        }
        return desk;
    }

    private static ProtocolDesk guestsAt(int round, int seats) {
        ProtocolDesk desk = guests();
        desk.table(round, seats);
        return desk;
    }

    private static void due(String what, ProtocolDesk desk, int t, int... sitters) {
        for (int i = 0; i < sitters.length; i++) {
            check.same(what + ", seat " + i, desk.seat(t, i), sitters[i]);
        }
        check.same(what + ", no such seat", desk.seat(t, sitters.length), NONE);
    }

    private static void fourTables() {
        check.sentence(0, "TABLES are numbered from 0 on, 4 at most: LONG (0) or ROUND (1)");
        ProtocolDesk desk = new ProtocolDesk();
        for (int t = 0; t < 4; t++) {
            check.same("none yet", desk.close(t), NONE);
            check.same("table " + t, desk.table(t % 2, 2 + t), t);
            check.same("it is one", desk.close(t), 0);
        }
        check.same("a fifth", desk.table(0, 2), FULL);
        check.same("four stay", desk.count(4), 4);
        check.same("there is no fifth", desk.close(4), NONE);
        check.same("each has its own seats", desk.sit(3, 4, -1), NONE);
        check.same("no more", desk.sit(3, 5, -1), NO_SUCH);
    }

    private static void tableRefusals() {
        check.sentence(20, "A TABLE more: its number. BAD; FULL.");
        check.range("round", Scene::busy, (d, round) -> d.table(round, 5), Check.edge(0, 2), Check.edge(1, 2), BAD);
        check.refused("both are wrong", Scene::busy, d -> d.table(LEAST, GREATEST), BAD);
        check.refused("BAD ahead of FULL, round", Scene::full, d -> d.table(2, 2), BAD);
        check.refused("BAD ahead of FULL, one seat", Scene::full, d -> d.table(0, 1), BAD);
        check.refused("BAD ahead of FULL, 13 seats", Scene::full, d -> d.table(1, 13), BAD);
        check.refused("FULL", Scene::full, d -> d.table(1, 12), FULL);
    }

    private static void seats() {
        check.sentence(0, "with SEATS 0 .. n - 1 (n 2 .. 12)");
        for (int round = 0; round < 2; round++) {
            int kind = round;
            check.range("seats, round " + round, Scene::busy, (d, n) -> d.table(kind, n), Check.edge(2, 2), Check.edge(12, 2), BAD);
            for (int n = 2; n <= 12; n++) {
                ProtocolDesk desk = guestsAt(round, n);
                check.same("the first of " + n, desk.sit(0, 0, 0), NONE);
                check.same("the last of " + n, desk.sit(0, n - 1, 1), NONE);
                check.same("none behind it", desk.sit(0, n, 2), NO_SUCH);
                check.same("none ahead of the first", desk.sit(0, -1, 2), NO_SUCH);
                check.same("the first", desk.seat(0, 0), 0);
                check.same("the last", desk.seat(0, n - 1), 1);
            }
        }
    }

    private static void feud() {
        check.sentence(21, "A FEUD of two STATES begins (1), ends (0): what it was.");
        ProtocolDesk desk = guests();
        check.same("none at first", desk.feud(0, 9, 1), 0);
        check.same("it is one", desk.feud(9, 0, 1), 1);
        check.same("it ends", desk.feud(0, 9, 0), 1);
        check.same("it has ended", desk.feud(9, 0, 0), 0);
        check.sentence(21, "NONE; BAD: they are one, is.");
        check.range("a", Scene::busy, (d, a) -> d.feud(a, 1, 1), Check.edge(0, 1), Check.edge(2, 0), NONE);
        check.range("b", Scene::busy, (d, b) -> d.feud(1, b, 1), Check.edge(0, 1), Check.edge(2, 0), NONE);
        check.range("is", Scene::busy, (d, is) -> d.feud(0, 1, is), Check.edge(0, 1), Check.edge(1, 1), BAD);
        check.range("a of ten", Scene::full, (d, a) -> d.feud(a, 5, 0), Check.edge(0, 0), Check.edge(9, 0), NONE);
        for (int s = 0; s < 3; s++) {
            int one = s;
            check.refused("they are one, " + s, Scene::busy, d -> d.feud(one, one, 1), BAD);
            check.refused("they are one, ends, " + s, Scene::busy, d -> d.feud(one, one, 0), BAD);
        }
        check.refused("NONE ahead of BAD, one", Scene::busy, d -> d.feud(3, 3, 1), NONE);
        check.refused("NONE ahead of BAD, is", Scene::busy, d -> d.feud(0, 3, 2), NONE);
        check.refused("nothing yet", ProtocolDesk::new, d -> d.feud(0, 1, 1), NONE);
    }

    private static void talk() {
        check.sentence(0, "(0 .. 9, 0 at first)");
        ProtocolDesk fresh = new ProtocolDesk();
        for (int t = 0; t < 8; t++) {
            for (int u = 0; u < 8; u++) {
                check.same("at first", fresh.talk(t, u, 0), t == u ? BAD : 0);
            }
        }
        check.range("cost", Scene::busy, (d, cost) -> d.talk(1, 0, cost), Check.edge(0, 3), Check.edge(9, 3), BAD);
        check.sentence(22, "COST of two TONGUES (unlike; either way): what it was. BAD.");
        ProtocolDesk desk = new ProtocolDesk();
        check.same("the first and the last", desk.talk(0, 7, 9), 0);
        check.same("either way", desk.talk(7, 0, 8), 9);
        check.same("either way", desk.talk(0, 7, 0), 8);
        check.same("0 again", desk.talk(7, 0, 1), 0);
        check.same("another is not touched", desk.talk(7, 1, 0), 0);
        for (int t = 0; t < 8; t++) {
            int one = t;
            check.refused("twice " + t, Scene::busy, d -> d.talk(one, one, 1), BAD);
        }
        check.refused("all are wrong", Scene::busy, d -> d.talk(LEAST, GREATEST, LEAST), BAD);
    }

    private static boolean areBeside(int round, int n, int i, int j) {
        return Math.abs(i - j) == 1 || round == 1 && Math.abs(i - j) == n - 1;
    }

    /** All tables, all two seats: who feud keep just if the seats are neither beside nor facing. */
    private static void besideAndFacing() {
        check.sentence(0, "BESIDE are SEATS i and i + 1, of ROUND ones the last and the first, too (each two once); "
            + "FACING in LONG ones i and n - 1 - i (unlike ones).");
        for (int round = 0; round < 2; round++) {
            for (int n = 2; n <= 12; n++) {
                for (int i = 0; i < n; i++) {
                    for (int j = 0; j < n; j++) {
                        if (i != j) {
                            twoSeats(round, n, i, j);
                        }
                    }
                }
            }
        }
        check.sentence(0, "A FEUD of two STATES: their PERSONS never sit BESIDE one another, nor FACING.");
        for (int n = 3; n <= 11; n += 2) {
            ProtocolDesk desk = guestsAt(0, n);
            desk.feud(0, 1, 1);
            desk.sit(0, n / 2, 0);
            check.same("the middle of " + n + " faces nobody", desk.keeps(0), 1);
        }
    }

    private static void twoSeats(int round, int n, int i, int j) {
        String what = (round == 1 ? "round " : "long ") + n + ", " + i + " and " + j;
        boolean beside = areBeside(round, n, i, j);
        boolean facing = round == 0 && i + j == n - 1;
        ProtocolDesk desk = guestsAt(round, n);
        desk.talk(1, 0, 9);
        desk.sit(0, i, 0);
        desk.sit(0, j, 1);
        int apart = i + Math.abs(j - 1);
        check.same(what + ", price", desk.price(0, 0, 0), apart + (beside ? 9 : 0));
        check.same(what + ", no feud", desk.keeps(0), 1);
        desk.feud(1, 0, 1);
        check.same(what + ", a feud", desk.keeps(0), beside || facing ? 0 : 1);
        desk.feud(0, 1, 0);
        desk.feud(0, 2, 1);
        check.same(what + ", a feud with another", desk.keeps(0), 1);
    }

    private static void besideOnce() {
        check.sentence(0, "(each two once)");
        ProtocolDesk two = guestsAt(1, 2);
        two.talk(0, 1, 9);
        two.sit(0, 0, 0);
        two.sit(0, 1, 1);
        check.same("two at a round table of two", two.price(0, 0, 0), 9);
        check.same("laid", two.lay(0, 0, 0, 3), 9);
        ProtocolDesk three = guestsAt(1, 3);
        three.talk(0, 1, 1);
        three.talk(1, 2, 2);
        three.talk(2, 0, 4);
        check.same("three at a round table of three", three.lay(0, 0, 0, 7), 7);
        check.same("price", three.price(0, 0, 0), 7);
        ProtocolDesk row = guestsAt(0, 3);
        row.talk(0, 1, 1);
        row.talk(1, 2, 2);
        row.talk(2, 0, 4);
        check.same("three at a long table of three", row.lay(0, 0, 0, 7), 3);
    }

    private static void talkOfLikeTongues() {
        check.sentence(0, "TALK: two BESIDE of unlike TONGUES cost 1 for each told COST of two TONGUES");
        ProtocolDesk desk = guestsAt(0, 2);
        for (int t = 0; t < 8; t++) {
            for (int u = t + 1; u < 8; u++) {
                desk.talk(t, u, 9);
            }
        }
        check.same("0 and 8 have like tongues", desk.lay(0, 0, 0, 0b100000001), 0);
        check.same("8 and 9 have not", desk.lay(0, 0, 0, 0b1100000000), 9);
        check.same("7 and 0 have not", desk.lay(0, 0, 0, 0b10000001), 9);
        ProtocolDesk few = Scene.people();
        few.table(0, 2);
        few.talk(0, 1, 9);
        check.same("0 and 1 of unlike tongues", few.lay(0, 0, 0, 0b11), 9);
        few.split(1, 0, 0, 0b10);
        check.same("of like ones since a split", few.price(0, 0, 0), 0);
    }

    private static void sit() {
        check.sentence(23, "A PERSON takes a SEAT (is on no other one of this TABLE then); p -1: nobody: "
            + "who sat there (NONE: nobody).");
        ProtocolDesk desk = guestsAt(1, 12);
        desk.table(0, 2);
        check.same("person 0 on the last seat", desk.sit(0, 11, 0), NONE);
        check.same("on it again", desk.sit(0, 11, 0), 0);
        check.same("it sits there", desk.seat(0, 11), 0);
        check.same("on the first", desk.sit(0, 0, 0), NONE);
        check.same("the last is empty", desk.seat(0, 11), NONE);
        check.same("at another table, too", desk.sit(1, 1, 0), NONE);
        check.same("it stays at the first", desk.seat(0, 0), 0);
        check.same("the last person in place of it", desk.sit(0, 0, 9), 0);
        check.same("it stays at the other", desk.seat(1, 1), 0);
        desk.sit(0, 5, 1);
        check.same("9 takes the seat of 1", desk.sit(0, 5, 9), 1);
        check.same("1 sits nowhere, nor does 9 on the first", desk.close(0), 1);
        check.same("9 alone", desk.seat(0, 0), 9);
        check.same("nobody", desk.sit(0, 0, -1), 9);
        check.same("nobody again", desk.sit(0, 0, -1), NONE);
        check.same("nobody on the last", desk.sit(0, 11, -1), NONE);
        check.same("none sits", desk.close(0), 0);
    }

    private static void sitRefusals() {
        check.sentence(23, "-5: there is none such; STATE: it is ABSENT.");
        check.range("table", Scene::busy, (d, t) -> d.sit(t, 0, 3), Check.edge(0, 2), Check.edge(1, NONE), NO_SUCH);
        check.range("seat of a long one", Scene::busy, (d, i) -> d.sit(0, i, 3), Check.edge(0, 2), Check.edge(3, NONE), NO_SUCH);
        check.range("seat of a round one", Scene::busy, (d, i) -> d.sit(1, i, 3), Check.edge(0, NONE), Check.edge(4, 5), NO_SUCH);
        check.range("person, with nobody", Scene::busy, (d, p) -> d.sit(0, 0, p), Check.edge(-1, 2), Check.edge(5, 2), NO_SUCH);
        check.range("seat for nobody", Scene::busy, (d, i) -> d.sit(1, i, -1), Check.edge(0, NONE), Check.edge(4, 5), NO_SUCH);
        check.refused("absent", Scene::busy, d -> d.sit(0, 0, 4), STATE);
        check.refused("absent, an empty seat", Scene::busy, d -> d.sit(0, 1, 4), STATE);
        check.refused("no table ahead of STATE", Scene::busy, d -> d.sit(2, 0, 4), NO_SUCH);
        check.refused("no seat ahead of STATE", Scene::busy, d -> d.sit(0, 4, 4), NO_SUCH);
        check.refused("no table yet", Scene::people, d -> d.sit(0, 0, 0), NO_SUCH);
        check.refused("no person yet", TablesEdgesTest::tableOfNobody, d -> d.sit(0, 0, 0), NO_SUCH);
        check.same("nobody, without persons", tableOfNobody().sit(0, 0, -1), NONE);
    }

    private static ProtocolDesk tableOfNobody() {
        ProtocolDesk desk = new ProtocolDesk();
        desk.table(0, 2);
        return desk;
    }

    private static void absentOnes() {
        check.sentence(0, "An ABSENT one leaves its SEAT empty");
        ProtocolDesk desk = guestsAt(1, 3);
        desk.feud(0, 1, 1);
        desk.talk(0, 2, 5);
        desk.sit(0, 0, 0);
        desk.sit(0, 1, 1);
        desk.sit(0, 2, 2);
        check.same("0 and 1 feud", desk.keeps(0), 0);
        check.same("price", desk.price(0, 0, 0), 5);
        desk.there(0, 0);
        due("its seat is empty", desk, 0, NONE, 1, 2);
        check.same("it keeps", desk.keeps(0), 1);
        check.same("1 and 2 have the places 0 and 1", desk.price(0, 0, 0), 2);
        desk.there(0, 1);
        due("it is empty still", desk, 0, NONE, 1, 2);
    }

    private static void price() {
        check.sentence(24, "PRICE. NONE.");
        check.range("table", Scene::busy, (d, t) -> d.price(t, 0, 5), Check.edge(0, 1), Check.edge(1, 4), NONE);
        check.refused("no table yet", Scene::people, d -> d.price(0, 0, 0), NONE);
        check.refused("all are wrong", Scene::busy, d -> d.price(LEAST, GREATEST, LEAST), NONE);
        check.same("an empty one", guestsAt(0, 12).price(0, 0, 0), 0);
        check.same("without persons", tableOfNobody().price(0, 9, GREATEST), 0);
    }

    private static void priceOfPlaces() {
        check.sentence(0, "Its PRICE for an OCCASION and a day: for each of them how far its place, from 0 on, among those who sit here, "
            + "by THE ORDER, is from the SEAT's number, together; and TALK.");
        ProtocolDesk desk = guestsAt(0, 12);
        desk.sit(0, 11, 9);
        check.same("one on the last seat", desk.price(0, 0, 0), 11);
        desk.sit(0, 0, 9);
        check.same("one on the first", desk.price(0, 0, 0), 0);
        for (int i = 0; i < 10; i++) {
            desk.sit(0, 11 - i, i);
        }
        // places 0 to 9 on seats 11 down to 2: 11 + 9 + 7 + 5 + 3 + 1 + 1 + 3 + 5 + 7
        check.same("ten, turned", desk.price(0, 0, 0), 52);
        Scene.rule(desk, "on 1 rank down", 3, 5);
        // places 9 down to 0 on seats 11 down to 2
        check.same("by a rule", desk.price(0, 1, 3), 20);
        check.same("on its last day", desk.price(0, 1, 4), 20);
        check.same("not on the day behind", desk.price(0, 1, 5), 52);
        check.same("not on the day before", desk.price(0, 1, 2), 52);
        check.same("not on another occasion", desk.price(0, 2, 3), 52);
        desk.there(0, 0);
        // 1 to 9 have the places 0 to 8 on seats 10 down to 2: 10 + 8 + 6 + 4 + 2 + 0 + 2 + 4 + 6
        check.same("nine, of those who sit", desk.price(0, 0, 0), 42);
    }

    private static void keeps() {
        check.sentence(25, "Whether it KEEPS: 1, 0. NONE.");
        check.range("table", Scene::busy, (d, t) -> d.keeps(t), Check.edge(0, 1), Check.edge(1, 1), NONE);
        check.range("table of four", Scene::full, (d, t) -> d.keeps(t), Check.edge(0, 1), Check.edge(3, 1), NONE);
        check.refused("no table yet", Scene::people, d -> d.keeps(0), NONE);
        ProtocolDesk desk = guestsAt(0, 12);
        desk.feud(0, 9, 1);
        check.same("an empty one", desk.keeps(0), 1);
        desk.sit(0, 0, 0);
        check.same("one alone", desk.keeps(0), 1);
        desk.sit(0, 11, 9);
        check.same("the first faces the last", desk.keeps(0), 0);
        ProtocolDesk one = new ProtocolDesk();
        one.state(0, 0);
        one.person(0, 2, 0, 0, 0);
        one.person(0, 2, 0, 0, 0);
        one.table(0, 2);
        one.sit(0, 0, 0);
        one.sit(0, 1, 1);
        check.same("two of one state", one.keeps(0), 1);
        one.split(0, 0, 0, 2);
        check.same("a split makes no feud", one.keeps(0), 1);
        one.feud(1, 0, 1);
        check.same("of the split one", one.keeps(0), 0);
    }

    private static void laySets() {
        check.sentence(0, "TO LAY it: PERSONS of a set (1 to 7, not more than SEATS), all there, get the SEATS 0 .. in that way which KEEPS");
        ProtocolDesk desk = guestsAt(0, 12);
        for (int n = 1; n <= 7; n++) {
            check.same(n + " persons", desk.lay(0, 0, 0, (1 << n) - 1), 0);
            check.same("all of them sit", desk.close(0), n);
        }
        int seven = 0b1111111;
        check.refused("none", TablesEdgesTest::longTwelve, d -> d.lay(0, 0, 0, 0), BAD);
        check.refused("eight", TablesEdgesTest::longTwelve, d -> d.lay(0, 0, 0, seven << 1 | 1), BAD);
        check.refused("all ten", TablesEdgesTest::longTwelve, d -> d.lay(0, 0, 0, 0b1111111111), BAD);
        check.same("the last seven", desk.lay(0, 0, 0, seven << 3), 0);
        due("they sit by number", desk, 0, 3, 4, 5, 6, 7, 8, 9, NONE, NONE, NONE, NONE, NONE);
        for (int n = 2; n <= 7; n++) {
            int many = n;
            ProtocolDesk fits = guestsAt(1, n);
            check.same("as many as seats, " + n, fits.lay(0, 0, 0, (1 << n) - 1), 0);
            check.refused("one more than seats, " + n, () -> guestsAt(1, many), d -> d.lay(0, 0, 0, (2 << many) - 1), BAD);
        }
        ProtocolDesk full = Scene.full();
        check.same("the last person of twenty", full.lay(0, 0, 5, 1 << 19), 0);
        check.same("it sits", full.seat(0, 0), 19);
        check.refused("a twenty-first", Scene::full, d -> d.lay(0, 0, 5, 1 << 20), BAD);
    }

    private static ProtocolDesk longTwelve() {
        ProtocolDesk desk = guestsAt(0, 12);
        desk.sit(0, 11, 3);
        return desk;
    }

    private static void layWays() {
        check.sentence(0, "with the least PRICE, of several the one with the lesser PERSON on the first SEAT that differs; "
            + "others are not at it any more.");
        ProtocolDesk desk = guestsAt(0, 4);
        desk.sit(0, 3, 9);
        desk.feud(1, 2, 1);
        // 0 1 2 3 has 1 beside 2; with price 2 keep 0 1 3 2 and 1 0 2 3
        check.same("the least of several", desk.lay(0, 0, 0, 0b1111), 2);
        due("the lesser on the first that differs", desk, 0, 0, 1, 3, 2);
        check.same("two of them", desk.lay(0, 0, 0, 0b1010), 0);
        due("others are not at it", desk, 0, 1, 3, NONE, NONE);
        desk.talk(0, 3, 2);
        // 0 3 costs 2 for talk, so does 3 0, and 2 more for the places
        check.same("talk", desk.lay(0, 0, 0, 0b1001), 2);
        due("by the order", desk, 0, 0, 3, NONE, NONE);
        ProtocolDesk turned = guestsAt(1, 7);
        Scene.rule(turned, "on * rank down");
        check.same("seven, turned", turned.lay(0, 0, 0, 0b1111111), 0);
        due("by the order", turned, 0, 6, 5, 4, 3, 2, 1, 0);
        ProtocolDesk facing = guestsAt(0, 4);
        facing.feud(0, 3, 1);
        check.same("the first faces the last of four", facing.lay(0, 0, 0, 0b1111), 2);
        due("they do not sit so", facing, 0, 0, 1, 3, 2);
        ProtocolDesk seven = guestsAt(0, 7);
        seven.feud(6, 0, 1);
        check.same("the first faces the last of seven", seven.lay(0, 0, 0, 0b1111111), 2);
        due("they do not sit so", seven, 0, 0, 1, 2, 3, 4, 6, 5);
        ProtocolDesk around = guestsAt(1, 3);
        around.feud(0, 2, 1);
        check.same("the last of two does not sit around", around.lay(0, 0, 0, 0b101), NO_WAY);
        ProtocolDesk wide = guestsAt(1, 4);
        wide.feud(0, 2, 1);
        check.same("an empty seat is between", wide.lay(0, 0, 0, 0b111), 0);
        due("by number", wide, 0, 0, 1, 2, NONE);
    }

    private static ProtocolDesk twoWhoFeud() {
        ProtocolDesk desk = guestsAt(0, 12);
        desk.feud(0, 1, 1);
        desk.sit(0, 5, 0);
        desk.sit(0, 9, 7);
        return desk;
    }

    private static ProtocolDesk sevenWhoFeud() {
        ProtocolDesk desk = guestsAt(1, 7);
        for (int a = 0; a < 7; a++) {
            desk.feud(a, (a + 1) % 7, 1);
            desk.feud(a, (a + 2) % 7, 1);
            desk.feud(a, (a + 3) % 7, 1);
        }
        desk.sit(0, 6, 0);
        return desk;
    }

    private static void layStays() {
        check.sentence(0, "If none KEEPS, it stays.");
        check.refused("two", TablesEdgesTest::twoWhoFeud, d -> d.lay(0, 0, 0, 3), NO_WAY);
        check.refused("seven", TablesEdgesTest::sevenWhoFeud, d -> d.lay(0, 0, 0, 0b1111111), NO_WAY);
        check.same("one keeps always", sevenWhoFeud().lay(0, 0, 0, 1), 0);
        check.same("a feud with one who leaves", twoWhoFeud().lay(0, 0, 0, 0b110), 0);
    }

    private static void layRefusals() {
        check.sentence(26, "It is LAID with a set (bits): PRICE. NONE; BAD: the set; STATE: one is ABSENT; -6: no way KEEPS.");
        check.range("table", Scene::busy, (d, t) -> d.lay(t, 0, 5, 0b101), Check.edge(0, 0), Check.edge(1, 0), NONE);
        int[] wrong = {0, 1 << 6, 1 << 6 | 1, 1 << 20, 1 << 30, LEAST, LEAST | 1, -1, GREATEST, 0b101111};
        for (int set : wrong) {
            check.refused("set " + set, Scene::busy, d -> d.lay(0, 0, 5, set), BAD);
        }
        check.refused("a bit where nobody is yet", TablesEdgesTest::tableOfNobody, d -> d.lay(0, 0, 0, 1), BAD);
        check.refused("the first is absent", TablesEdgesTest::withoutTheFirst, d -> d.lay(0, 0, 5, 0b101), STATE);
        check.refused("the last is absent", TablesEdgesTest::withoutTheLast, d -> d.lay(0, 0, 5, 0b100001), STATE);
        check.refused("it alone", TablesEdgesTest::withoutTheLast, d -> d.lay(0, 0, 5, 0b100000), STATE);
        check.refused("no table yet", Scene::people, d -> d.lay(0, 0, 0, 1), NONE);
    }

    private static ProtocolDesk withoutTheFirst() {
        ProtocolDesk desk = Scene.busy();
        desk.there(0, 0);
        return desk;
    }

    private static ProtocolDesk withoutTheLast() {
        ProtocolDesk desk = Scene.busy();
        desk.there(5, 0);
        return desk;
    }

    private static void layTwoRefusals() {
        check.sentence(26, "NONE; BAD: the set; STATE: one is ABSENT; -6: no way KEEPS.");
        check.refused("no table, an empty set", Scene::busy, d -> d.lay(2, 0, 5, 0), NONE);
        check.refused("no table, one absent", Scene::busy, d -> d.lay(2, 0, 5, 16), NONE);
        check.refused("no occasion, an empty set", Scene::busy, d -> d.lay(0, 10, 5, 0), NONE);
        check.refused("no day, a bit of nobody", Scene::busy, d -> d.lay(0, 0, -1, 64), NONE);
        check.refused("no day, one absent", Scene::busy, d -> d.lay(0, 0, -1, 16), NONE);
        check.refused("no occasion, no way", Scene::busy, d -> d.lay(0, -1, 5, 3), NONE);
        check.refused("too many, one absent", Scene::busy, d -> d.lay(0, 0, 5, 0b111111), BAD);
        check.refused("a bit of nobody, one absent", Scene::busy, d -> d.lay(0, 0, 5, 0b1010000), BAD);
        check.refused("a bit of nobody, no way", Scene::busy, d -> d.lay(0, 0, 5, 0b1000011), BAD);
        check.refused("one absent, no way", Scene::busy, d -> d.lay(0, 0, 5, 0b010011), STATE);
        check.refused("no way", Scene::busy, d -> d.lay(0, 0, 5, 0b000011), NO_WAY);
    }

    private static void close() {
        check.sentence(27, "It is CLOSED: how many sit. NONE.");
        check.range("table", Scene::busy, (d, t) -> d.close(t), Check.edge(0, 2), Check.edge(1, 2), NONE);
        check.range("table of four", Scene::full, (d, t) -> d.close(t), Check.edge(0, 1), Check.edge(3, 0), NONE);
        check.refused("no table yet", Scene::people, d -> d.close(0), NONE);
        check.sentence(0, "TO CLOSE a TABLE: those who sit move to lower SEATS, in their order.");
        ProtocolDesk desk = guestsAt(0, 3);
        check.same("nobody", desk.close(0), 0);
        due("nobody", desk, 0, NONE, NONE, NONE);
        desk.sit(0, 2, 5);
        check.same("the last seat alone", desk.close(0), 1);
        due("it moves to the first", desk, 0, 5, NONE, NONE);
        desk.sit(0, 1, 4);
        desk.sit(0, 2, 3);
        check.same("a full one", desk.close(0), 3);
        due("it stays", desk, 0, 5, 4, 3);
        desk.there(5, 0);
        check.same("without the first", desk.close(0), 2);
        due("in their order", desk, 0, 4, 3, NONE);
        ProtocolDesk round = guestsAt(1, 12);
        for (int i = 0; i < 6; i++) {
            round.sit(0, 2 * i + 1, 9 - i);
        }
        check.same("each second seat of twelve", round.close(0), 6);
        due("in their order", round, 0, 9, 8, 7, 6, 5, 4, NONE, NONE, NONE, NONE, NONE, NONE);
    }

    private static void seat() {
        check.sentence(28, "Who sits on a SEAT. NONE.");
        check.range("table", TablesEdgesTest::firstSeatsTaken, (d, t) -> d.seat(t, 0), Check.edge(0, 5), Check.edge(3, 8), NONE);
        check.range("seat", TablesEdgesTest::firstSeatsTaken, (d, i) -> d.seat(3, i), Check.edge(0, 8), Check.edge(11, 9), NONE);
        check.refused("no table yet", Scene::people, d -> d.seat(0, 0), NONE);
        check.same("nobody", firstSeatsTaken().seat(3, 1), NONE);
        check.same("the seat behind the last of two", firstSeatsTaken().seat(0, 2), NONE);
        check.refused("both are wrong", Scene::busy, d -> d.seat(LEAST, GREATEST), NONE);
    }

    private static ProtocolDesk firstSeatsTaken() {
        ProtocolDesk desk = guests();
        for (int t = 0; t < 4; t++) {
            desk.table(0, t < 3 ? 2 : 12);
            desk.sit(t, 0, 5 + t);
        }
        desk.sit(3, 11, 9);
        return desk;
    }
}

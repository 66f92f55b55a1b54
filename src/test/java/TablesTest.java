/** Promises 20 to 28. */
public final class TablesTest {
    private static final int NONE = ProtocolDesk.NONE;
    private static final int BAD = ProtocolDesk.BAD;
    private static final int STATE = ProtocolDesk.STATE;
    private static final int FULL = ProtocolDesk.FULL;
    private static final Check check = new Check();

    public static void main(String[] args) {
        table();
        feud();
        talk();
        sit();
        places();
        placesCutOut();
        talkAtTables();
        keepsLong();
        keepsRound();
        layByOrder();
        layWithFeuds();
        layWithTalk();
        layRefusals();
        close();
        check.finish();
    }

    /** One guest of each of n states, state s with tongue s; by rank the greatest number goes first. */
    private static ProtocolDesk guests(int n) {
        ProtocolDesk desk = new ProtocolDesk();
        for (int s = 0; s < n; s++) {
            desk.state(s, s % 8);
            desk.person(s, 2, 9 - s, 0, 0);
        }
        Scene.rule(desk, "on 1 rank up");
        return desk;
    }

    private static void due(String what, ProtocolDesk desk, int t, int... sitters) {
        for (int i = 0; i < sitters.length; i++) {
            check.same(what + ", seat " + i, desk.seat(t, i), sitters[i]);
        }
    }

    private static void table() {
        ProtocolDesk desk = new ProtocolDesk();
        check.same("20: long", desk.table(0, 2), 0);
        check.same("20: round", desk.table(1, 12), 1);
        due("28: nobody sits", desk, 0, NONE, NONE);
        check.same("28: its last seat", desk.seat(1, 11), NONE);
        check.same("20: a third", desk.table(0, 12), 2);
        check.same("20: a fourth", desk.table(1, 2), 3);
        check.same("20: a fifth", desk.table(1, 2), FULL);
        check.same("20: BAD ahead of FULL", desk.table(1, 1), BAD);
        check.same("20: count", desk.count(4), 4);
        check.refused("20: round 2", Scene::busy, d -> d.table(2, 5), BAD);
        check.refused("20: round -1", Scene::busy, d -> d.table(-1, 5), BAD);
        check.refused("20: one seat", Scene::busy, d -> d.table(0, 1), BAD);
        check.refused("20: 13 seats", Scene::busy, d -> d.table(0, 13), BAD);
    }

    private static void feud() {
        ProtocolDesk desk = Scene.people();
        check.same("21: begins", desk.feud(0, 2, 1), 0);
        check.same("21: either way", desk.feud(2, 0, 1), 1);
        check.same("21: ends", desk.feud(2, 0, 0), 1);
        check.same("21: has ended", desk.feud(0, 2, 0), 0);
        check.refused("21: no such state", Scene::busy, d -> d.feud(3, 0, 1), NONE);
        check.refused("21: -1", Scene::busy, d -> d.feud(0, -1, 1), NONE);
        check.refused("21: NONE ahead of BAD", Scene::busy, d -> d.feud(3, 3, 2), NONE);
        check.refused("21: they are one", Scene::busy, d -> d.feud(2, 2, 1), BAD);
        check.refused("21: is 2", Scene::busy, d -> d.feud(0, 2, 2), BAD);
        check.refused("21: is -1", Scene::busy, d -> d.feud(0, 1, -1), BAD);
    }

    private static void talk() {
        ProtocolDesk desk = new ProtocolDesk();
        check.same("22: 0 at first", desk.talk(0, 7, 9), 0);
        check.same("22: either way", desk.talk(7, 0, 4), 9);
        check.same("22: again", desk.talk(0, 7, 0), 4);
        check.same("22: others are not touched", desk.talk(0, 6, 0), 0);
        check.refused("22: like ones", Scene::busy, d -> d.talk(1, 1, 3), BAD);
        check.refused("22: tongue 8", Scene::busy, d -> d.talk(1, 8, 3), BAD);
        check.refused("22: tongue -1", Scene::busy, d -> d.talk(-1, 1, 3), BAD);
        check.refused("22: cost 10", Scene::busy, d -> d.talk(0, 1, 10), BAD);
        check.refused("22: cost -1", Scene::busy, d -> d.talk(0, 1, -1), BAD);
    }

    private static void sit() {
        ProtocolDesk desk = guests(4);
        desk.table(0, 3);
        desk.table(1, 3);
        check.same("23: nobody sat there", desk.sit(0, 1, 2), NONE);
        check.same("28: sits", desk.seat(0, 1), 2);
        check.same("23: once more", desk.sit(0, 1, 2), 2);
        due("23: it stays", desk, 0, NONE, 2, NONE);
        check.same("23: another seat", desk.sit(0, 2, 2), NONE);
        due("23: on no other one", desk, 0, NONE, NONE, 2);
        check.same("23: another table", desk.sit(1, 0, 2), NONE);
        due("23: still at the first", desk, 0, NONE, NONE, 2);
        check.same("23: in place of it", desk.sit(0, 2, 3), 2);
        due("23: it has none", desk, 0, NONE, NONE, 3);
        check.same("23: nobody", desk.sit(0, 2, -1), 3);
        check.same("23: nobody again", desk.sit(0, 2, -1), NONE);
        check.refused("23: no such table", Scene::busy, d -> d.sit(2, 0, 0), -5);
        check.refused("23: table -1", Scene::busy, d -> d.sit(-1, 0, 0), -5);
        check.refused("23: no such seat", Scene::busy, d -> d.sit(0, 4, 0), -5);
        check.refused("23: seat -1", Scene::busy, d -> d.sit(0, -1, 0), -5);
        check.refused("23: no such person", Scene::busy, d -> d.sit(0, 0, 6), -5);
        check.refused("23: person -2", Scene::busy, d -> d.sit(0, 0, -2), -5);
        check.refused("23: absent", Scene::busy, d -> d.sit(0, 0, 4), STATE);
        check.refused("23: -5 ahead of STATE", Scene::busy, d -> d.sit(0, 9, 4), -5);
        check.same("28: seat -1", desk.seat(0, -1), NONE);
        check.same("28: no such seat", desk.seat(0, 3), NONE);
        check.same("28: no such table", desk.seat(2, 0), NONE);
        check.same("28: table -1", desk.seat(-1, 0), NONE);
    }

    private static void places() {
        ProtocolDesk desk = guests(4);
        desk.table(0, 5);
        check.same("24: nobody sits", desk.price(0, 1, 5), 0);
        desk.sit(0, 4, 3);
        check.same("24: one of place 0 on seat 4", desk.price(0, 1, 5), 4);
        desk.sit(0, 0, 0);
        check.same("24: places 1 and 0 on seats 0 and 4", desk.price(0, 1, 5), 5);
        check.same("24: by number on another occasion", desk.price(0, 2, 5), 3);
        desk.sit(0, 1, 2);
        check.same("24: places 2, 1, 0 on seats 0, 1, 4", desk.price(0, 1, 5), 6);
        check.same("24: no such table", desk.price(1, 1, 5), NONE);
        check.same("24: table -1", desk.price(-1, 1, 5), NONE);
        check.same("24: occasion 10", desk.price(0, 10, 5), NONE);
        check.same("24: day -1", desk.price(0, 1, -1), NONE);
    }

    /** 3 stands in a ring with those who sit: their places are cut out of the order of all. */
    private static void placesCutOut() {
        ProtocolDesk desk = new ProtocolDesk();
        desk.state(0, 0);
        for (int p = 0; p < 4; p++) {
            desk.person(0, 2, 0, 0, 0);
        }
        desk.hand(2, 1);
        desk.hand(1, 3);
        desk.hand(3, 2);
        desk.hand(3, 0);
        desk.hand(2, 0);
        desk.table(0, 3);
        desk.sit(0, 0, 0);
        desk.sit(0, 1, 1);
        desk.sit(0, 2, 2);
        check.same("24: all by the order of all", desk.price(0, 1, 5), 0);
        desk.there(3, 0);
        check.same("24: without the ring", desk.price(0, 1, 5), 4);
    }

    private static void talkAtTables() {
        ProtocolDesk desk = guests(4);
        desk.talk(0, 1, 5);
        desk.talk(1, 2, 7);
        desk.talk(0, 2, 9);
        for (int t = 0; t < 4; t++) {
            desk.table(t % 2, t < 2 ? 3 : 2);
        }
        for (int t = 0; t < 2; t++) {
            desk.sit(t, 0, 2);
            desk.sit(t, 1, 1);
            desk.sit(t, 2, 0);
            desk.sit(t + 2, 0, 1);
            desk.sit(t + 2, 1, 0);
        }
        check.same("24: talk at a long table", desk.price(0, 1, 5), 12);
        check.same("24: the last beside the first at a round one", desk.price(1, 1, 5), 21);
        check.same("24: two at a long table", desk.price(2, 1, 5), 5);
        check.same("24: two at a round table, once", desk.price(3, 1, 5), 5);
        desk.sit(0, 1, -1);
        check.same("24: none across an empty seat", desk.price(0, 1, 5), 1);
        desk.sit(1, 1, -1);
        check.same("24: but around", desk.price(1, 1, 5), 10);
    }

    private static int keepsWith(int round, int seats, int i, int j) {
        ProtocolDesk desk = guests(2);
        desk.table(round, seats);
        desk.feud(0, 1, 1);
        desk.sit(0, i, 0);
        desk.sit(0, j, 1);
        return desk.keeps(0);
    }

    private static void keepsLong() {
        for (int i = 0; i < 5; i++) {
            for (int j = 0; j < 5; j++) {
                if (i != j) {
                    boolean touch = Math.abs(i - j) == 1 || i + j == 4;
                    check.same("25: long, " + i + " and " + j, keepsWith(0, 5, i, j), touch ? 0 : 1);
                }
            }
        }
        check.same("25: the middle faces nobody", keepsWith(0, 5, 2, 0), 1);
        check.same("25: six seats, 1 and 4 face", keepsWith(0, 6, 1, 4), 0);
        check.same("25: six seats, 1 and 3 do not", keepsWith(0, 6, 1, 3), 1);
        check.same("25: two seats", keepsWith(0, 2, 1, 0), 0);
    }

    private static void keepsRound() {
        for (int i = 0; i < 6; i++) {
            for (int j = 0; j < 6; j++) {
                if (i != j) {
                    boolean touch = Math.abs(i - j) == 1 || Math.abs(i - j) == 5;
                    check.same("25: round, " + i + " and " + j, keepsWith(1, 6, i, j), touch ? 0 : 1);
                }
            }
        }
        check.same("25: two seats", keepsWith(1, 2, 0, 1), 0);
        ProtocolDesk desk = Scene.people();
        desk.table(1, 3);
        check.same("25: nobody sits", desk.keeps(0), 1);
        desk.sit(0, 0, 0);
        desk.sit(0, 1, 3);
        check.same("25: of one state", desk.keeps(0), 1);
        int made = desk.split(0, 1, 1, 8);
        desk.feud(made, 0, 1);
        check.same("25: of two since a split", desk.keeps(0), 0);
        desk.feud(0, made, 0);
        check.same("25: the feud has ended", desk.keeps(0), 1);
        check.same("25: no such table", desk.keeps(1), NONE);
        check.same("25: table -1", desk.keeps(-1), NONE);
    }

    private static void layByOrder() {
        ProtocolDesk desk = guests(9);
        desk.table(0, 8);
        desk.sit(0, 7, 8);
        check.same("26: seven", desk.lay(0, 1, 5, 0b1111111), 0);
        due("26: by the order", desk, 0, 6, 5, 4, 3, 2, 1, 0, NONE);
        check.same("26: one", desk.lay(0, 1, 5, 0b100000000), 0);
        due("26: others are not at it", desk, 0, 8, NONE, NONE, NONE, NONE, NONE, NONE, NONE);
        check.same("26: without a rule", desk.lay(0, 2, 5, 0b1010100), 0);
        due("26: by number", desk, 0, 2, 4, 6, NONE);
        desk.table(0, 2);
        check.same("26: it sits at two", desk.lay(1, 1, 5, 0b1000100), 0);
        due("26: the second", desk, 1, 6, 2);
        due("26: the first", desk, 0, 2, 4, 6, NONE);
    }

    private static void layWithFeuds() {
        ProtocolDesk desk = guests(4);
        desk.table(0, 4);
        desk.table(1, 4);
        desk.table(0, 7);
        desk.feud(3, 2, 1);
        check.same("26: long with a feud", desk.lay(0, 1, 5, 15), 2);
        due("26: the least price, then the least persons", desk, 0, 3, 1, 2, 0);
        check.same("26: it keeps", desk.keeps(0), 1);
        check.same("26: round with a feud", desk.lay(1, 1, 5, 15), 2);
        due("26: the other ones", desk, 1, 3, 1, 2, 0);
        desk.feud(2, 1, 1);
        desk.feud(3, 1, 1);
        check.same("26: no way keeps", desk.lay(0, 1, 5, 15), -6);
        due("26: it stays", desk, 0, 3, 1, 2, 0);
        check.same("26: nor with three", desk.lay(2, 1, 5, 14), -6);
        due("26: it stays empty", desk, 2, NONE, NONE, NONE);
        check.refused("26: changes nothing", TablesTest::twoWhoFeud, d -> d.lay(0, 1, 5, 0b11), -6);
    }

    private static ProtocolDesk twoWhoFeud() {
        ProtocolDesk desk = Scene.busy();
        desk.feud(0, 1, 1);
        return desk;
    }

    private static void layWithTalk() {
        ProtocolDesk desk = guests(3);
        desk.table(0, 3);
        desk.table(1, 3);
        desk.talk(2, 1, 9);
        desk.talk(1, 0, 1);
        // 2 1 0 costs 9 + 1, 2 0 1 costs 2 for the places and 1
        check.same("26: talk", desk.lay(0, 1, 5, 7), 3);
        due("26: talk", desk, 0, 2, 0, 1);
        check.same("26: round, all are beside", desk.lay(1, 1, 5, 7), 10);
        due("26: round", desk, 1, 2, 1, 0);
        desk.talk(2, 1, 2);
        desk.talk(1, 0, 0);
        // 2 1 0 costs 2 for talk, 2 0 1 costs 2 for the places
        check.same("26: like prices", desk.lay(0, 1, 5, 7), 2);
        due("26: the lesser person on the first that differs", desk, 0, 2, 0, 1);
    }

    private static void layRefusals() {
        check.refused("26: no such table", Scene::busy, d -> d.lay(2, 1, 5, 1), NONE);
        check.refused("26: table -1", Scene::busy, d -> d.lay(-1, 1, 5, 1), NONE);
        check.refused("26: occasion 10", Scene::busy, d -> d.lay(0, 10, 5, 1), NONE);
        check.refused("26: day -1", Scene::busy, d -> d.lay(0, 1, -1, 1), NONE);
        check.refused("26: NONE ahead of BAD", Scene::busy, d -> d.lay(0, 10, 5, 0), NONE);
        check.refused("26: nobody", Scene::busy, d -> d.lay(0, 1, 5, 0), BAD);
        check.refused("26: a bit of nobody", Scene::busy, d -> d.lay(0, 1, 5, 0b1000001), BAD);
        check.refused("26: the highest bit", Scene::busy, d -> d.lay(0, 1, 5, Integer.MIN_VALUE), BAD);
        check.refused("26: more than seats", Scene::busy, d -> d.lay(0, 1, 5, 0b101111), BAD);
        check.refused("26: BAD ahead of STATE", Scene::busy, d -> d.lay(0, 1, 5, 0b111111), BAD);
        check.refused("26: one is absent", Scene::busy, d -> d.lay(0, 1, 5, 0b010001), STATE);
        check.refused("26: STATE ahead of -6", Scene::busy, d -> d.lay(0, 1, 5, 0b010011), STATE);
        check.refused("26: the first one is absent", TablesTest::withoutTheFirst, d -> d.lay(0, 1, 5, 3), STATE);
        ProtocolDesk desk = guests(9);
        desk.table(0, 12);
        check.same("26: eight", desk.lay(0, 1, 5, 0b11111111), BAD);
        due("26: it stays", desk, 0, NONE, NONE);
    }

    private static ProtocolDesk withoutTheFirst() {
        ProtocolDesk desk = Scene.busy();
        desk.there(0, 0);
        return desk;
    }

    private static void close() {
        ProtocolDesk desk = guests(5);
        desk.table(1, 6);
        check.same("27: nobody", desk.close(0), 0);
        desk.sit(0, 1, 4);
        desk.sit(0, 3, 0);
        desk.sit(0, 5, 2);
        check.same("27: three", desk.close(0), 3);
        due("27: in their order", desk, 0, 4, 0, 2, NONE, NONE, NONE);
        check.same("27: once more", desk.close(0), 3);
        due("27: as they sat", desk, 0, 4, 0, 2, NONE, NONE, NONE);
        desk.there(4, 0);
        check.same("27: without an absent one", desk.close(0), 2);
        due("27: moved", desk, 0, 0, 2, NONE, NONE, NONE, NONE);
        check.same("27: no such table", desk.close(1), NONE);
        check.same("27: table -1", desk.close(-1), NONE);
    }
}

/** Desks that tests begin with, and all that can be seen of a desk. */
final class Scene {
    private Scene() {
    }

    /** Feeds a text, in pieces of up to eight bytes. */
    static void write(ProtocolDesk desk, String text) {
        for (int at = 0; at < text.length(); at += 8) {
            int end = Math.min(text.length(), at + 8);
            long w = 0;
            for (int i = at; i < end; i++) {
                w = w << 8 | text.charAt(i) & 255;
            }
            desk.feed(w, end - at);
        }
    }

    static int rule(ProtocolDesk desk, String text, int from, int to) {
        write(desk, text);
        return desk.rule(from, to);
    }

    static int rule(ProtocolDesk desk, String text) {
        return rule(desk, text, 0, 10000);
    }

    /** Three states; 0 an envoy, 1 an envoy, 2 a guest, 3 consort of 0, 4 deputy of 1, 5 an elder. */
    static ProtocolDesk people() {
        ProtocolDesk desk = new ProtocolDesk();
        desk.state(5, 0);
        desk.state(9, 1);
        desk.state(2, 2);
        desk.person(0, 0, 3, 100, 0);
        desk.person(1, 0, 2, 50, 0);
        desk.person(2, 2, 1, 10, 0);
        desk.person(0, 3, 7, 4, 0);
        desk.person(1, 4, 6, 8, 1);
        desk.person(2, 5, 4, 5, 0);
        desk.paper(0, 7000);
        desk.paper(5, 900);
        return desk;
    }

    /** Those with rules, a hand, tables, a feud, talk, and visits that are owed. */
    static ProtocolDesk busy() {
        ProtocolDesk desk = people();
        rule(desk, "on * rank up", 0, 5000);
        rule(desk, "on 1 since down if a.kind=0", 2, 9000);
        desk.hand(5, 0);
        desk.table(0, 4);
        desk.table(1, 5);
        desk.feud(0, 1, 1);
        desk.talk(0, 1, 3);
        desk.sit(0, 0, 2);
        desk.sit(0, 2, 0);
        desk.sit(1, 1, 2);
        desk.sit(1, 4, 5);
        desk.visit(0, 1, 5);
        desk.visit(2, 1, 7);
        desk.there(4, 0);
        write(desk, "on 2 na");
        return desk;
    }

    static String show(ProtocolDesk desk) {
        StringBuilder text = new StringBuilder();
        for (int what = 0; what < 8; what++) {
            text.append(desk.count(what)).append(' ');
        }
        text.append("| ");
        for (int p = 0; p < desk.count(1); p++) {
            for (int what = 0; what < 9; what++) {
                text.append(desk.about(p, what)).append(' ');
            }
        }
        text.append("| ");
        for (int i = 0; i < 6; i++) {
            text.append(desk.order(1, 5, i)).append(' ');
        }
        for (int y = 1; y < 5; y++) {
            text.append(desk.why(1, 5, 0, y)).append(' ').append(desk.ahead(1, 5, 0, y)).append(' ');
        }
        text.append("| ");
        for (int t = 0; t < desk.count(4); t++) {
            for (int i = 0; i < 6; i++) {
                text.append(desk.seat(t, i)).append(' ');
            }
            text.append(desk.price(t, 1, 5)).append(' ').append(desk.keeps(t)).append(' ');
        }
        text.append("| ");
        for (int x = 0; x < 3; x++) {
            for (int i = 0; i < 4; i++) {
                text.append(desk.owes(x, i, 16)).append(' ');
            }
        }
        text.append("| ");
        for (int a = 0; a < 3; a++) {
            for (int b = a + 1; b < 3; b++) {
                text.append(desk.feud(a, b, 0)).append(' ').append(desk.talk(a, b, 0)).append(' ');
            }
        }
        text.append(desk.within(1)).append(' ').append(desk.rule(0, 1)).append(' ');
        for (int r = 0; r < 3; r++) {
            text.append(desk.ends(r, 3)).append(' ');
        }
        return text.toString();
    }
}

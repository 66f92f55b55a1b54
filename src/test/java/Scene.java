/** Where tests begin; each is arranged on a desk or on the model. */
final class Scene {
    private Scene() {
    }

    /** Feeds a text, in pieces of up to eight bytes. */
    private static void write(Face face, String text) {
        for (int at = 0; at < text.length(); at += 8) {
            int end = Math.min(text.length(), at + 8);
            long w = 0;
            for (int i = at; i < end; i++) {
                w = w << 8 | text.charAt(i) & 255;
            }
            face.call("feed", w, end - at);
        }
    }

    private static int rule(Face face, String text, int from, int to) {
        write(face, text);
        return face.call("rule", from, to);
    }

    static void write(ProtocolDesk desk, String text) {
        write(new Face(desk), text);
    }

    static int rule(ProtocolDesk desk, String text, int from, int to) {
        return rule(new Face(desk), text, from, to);
    }

    static int rule(ProtocolDesk desk, String text) {
        return rule(desk, text, 0, 10000);
    }

    static ProtocolDesk people() {
        ProtocolDesk desk = new ProtocolDesk();
        people(new Face(desk));
        return desk;
    }

    static ProtocolDesk busy() {
        ProtocolDesk desk = new ProtocolDesk();
        busy(new Face(desk));
        return desk;
    }

    static ProtocolDesk full() {
        ProtocolDesk desk = new ProtocolDesk();
        full(new Face(desk));
        return desk;
    }

    static void fillTape(ProtocolDesk desk) {
        fillTape(new Face(desk));
    }

    /** Three states; 0 an envoy, 1 an envoy, 2 a guest, 3 consort of 0, 4 deputy of 1, 5 an elder. */
    static void people(Face face) {
        face.call("state", 5, 0);
        face.call("state", 9, 1);
        face.call("state", 2, 2);
        face.call("person", 0, 0, 3, 100, 0);
        face.call("person", 1, 0, 2, 50, 0);
        face.call("person", 2, 2, 1, 10, 0);
        face.call("person", 0, 3, 7, 4, 0);
        face.call("person", 1, 4, 6, 8, 1);
        face.call("person", 2, 5, 4, 5, 0);
        face.call("paper", 0, 7000);
        face.call("paper", 5, 900);
    }

    /** Those with rules, a hand, tables, a feud, talk, and visits that are owed. */
    static void busy(Face face) {
        people(face);
        rule(face, "on * rank up", 0, 5000);
        rule(face, "on 1 since down if a.kind=0", 2, 9000);
        face.call("hand", 5, 0);
        face.call("table", 0, 4);
        face.call("table", 1, 5);
        face.call("feud", 0, 1, 1);
        face.call("talk", 0, 1, 3);
        face.call("sit", 0, 0, 2);
        face.call("sit", 0, 2, 0);
        face.call("sit", 1, 1, 2);
        face.call("sit", 1, 4, 5);
        face.call("visit", 0, 1, 5);
        face.call("visit", 2, 1, 7);
        face.call("there", 4, 0);
        write(face, "on 2 na");
    }

    /** As much of everything as the document allows: no call that adds has room. */
    static void full(Face face) {
        people(face);
        for (int s = 3; s < 10; s++) {
            face.call("state", s, s % 8);
        }
        for (int p = 6; p < 20; p++) {
            face.call("person", p % 10, 2, p % 10, p, 0);
        }
        for (int r = 0; r < 16; r++) {
            rule(face, r % 2 == 0 ? "on * rank up" : "on 1 name up", 0, 5000 + r);
        }
        for (int h = 0; h < 20; h++) {
            face.call("hand", (h + 1) % 20, h);
        }
        face.call("table", 0, 2);
        face.call("table", 1, 12);
        face.call("table", 0, 7);
        face.call("table", 1, 3);
        face.call("sit", 0, 1, 0);
        face.call("sit", 1, 11, 19);
        face.call("sit", 1, 0, 1);
        face.call("sit", 2, 3, 7);
        face.call("feud", 0, 9, 1);
        face.call("talk", 0, 7, 9);
        for (int v = 0; v < 40; v++) {
            face.call("visit", v % 10, 10 + v % 7, v);
        }
        face.call("there", 4, 0);
        fillTape(face);
    }

    private static void fillTape(Face face) {
        for (int i = 0; i < 25; i++) {
            face.call("feed", 0x6F6E206F6E206F6EL, 8);
        }
    }
}

/** What can be seen of a desk, in parts, since all of it needs more calls than one object is made for. */
enum View {
    COUNTS, PERSONS, AHEAD, WHY, QUARRELS, ORDERS, RULES, TABLES, FEUDS_AND_COSTS, VISITS, TAPE;

    String of(Face desk) {
        StringBuilder text = new StringBuilder();
        switch (this) {
            case COUNTS: counts(desk, text); break;
            case PERSONS: persons(desk, text); break;
            case AHEAD: pairs(desk, text, "ahead"); break;
            case WHY: pairs(desk, text, "why"); break;
            case QUARRELS: pairs(desk, text, "quarrel"); break;
            case ORDERS: orders(desk, text); break;
            case RULES: rules(desk, text); break;
            case TABLES: tables(desk, text); break;
            case FEUDS_AND_COSTS: feudsAndCosts(desk, text); break;
            case VISITS: visits(desk, text); break;
            default: tape(desk, text); break;
        }
        return text.toString();
    }

    private static void see(Face desk, StringBuilder text, String name, long... args) {
        text.append(desk.call(name, args)).append(' ');
    }

    private static void counts(Face desk, StringBuilder text) {
        for (int what = 0; what < 8; what++) {
            see(desk, text, "count", what);
        }
        see(desk, text, "dean");
    }

    private static void persons(Face desk, StringBuilder text) {
        int persons = desk.call("count", 1);
        for (int p = 0; p < persons; p++) {
            for (int what = 0; what < 9; what++) {
                see(desk, text, "about", p, what);
            }
        }
        for (int p = 0; p < persons; p++) {
            // the paper of a consort shows only where it is taken away
            see(desk, text, "paper", p, 0);
        }
    }

    private static void pairs(Face desk, StringBuilder text, String name) {
        int persons = desk.call("count", 1);
        for (int x = 0; x < persons; x++) {
            for (int y = x + 1; y < persons; y++) {
                see(desk, text, name, 1, 5, x, y);
            }
        }
    }

    private static void orders(Face desk, StringBuilder text) {
        int persons = desk.call("count", 1);
        for (int o = 1; o < 3; o++) {
            for (int i = 0; i <= persons; i++) {
                see(desk, text, "order", o, 5, i);
                see(desk, text, "ring", o, 5, i);
            }
        }
    }

    private static void rules(Face desk, StringBuilder text) {
        int rules = desk.call("count", 2);
        for (int r = 0; r < rules; r++) {
            for (int y = 1; y < 6; y++) {
                see(desk, text, "decides", r, 1, 5, 0, y);
                see(desk, text, "decides", r, 2, 5, 0, y);
            }
        }
        for (int r = 0; r < rules; r++) {
            see(desk, text, "ends", r, 3);
        }
    }

    private static void tables(Face desk, StringBuilder text) {
        int tables = desk.call("count", 4);
        for (int t = 0; t < tables; t++) {
            for (int i = 0; i < 13; i++) {
                see(desk, text, "seat", t, i);
            }
            see(desk, text, "price", t, 1, 5);
            see(desk, text, "keeps", t);
        }
    }

    private static void feudsAndCosts(Face desk, StringBuilder text) {
        int states = desk.call("count", 0);
        for (int a = 0; a < states; a++) {
            for (int b = a + 1; b < states; b++) {
                see(desk, text, "feud", a, b, 0);
            }
        }
        for (int t = 0; t < 8; t++) {
            for (int u = t + 1; u < 8; u++) {
                see(desk, text, "talk", t, u, 0);
            }
        }
    }

    private static void visits(Face desk, StringBuilder text) {
        int persons = desk.call("count", 1);
        for (int x = 0; x < persons; x++) {
            int last = 0;
            for (int i = 0; i <= 40 && last != ProtocolDesk.NONE; i++) {
                last = desk.call("owes", x, i, 16);
                text.append(last).append(' ');
                see(desk, text, "owes", x, i, 30);
            }
        }
        see(desk, text, "within", 1);
    }

    /** The tape of Scene.busy() becomes a rule with these words behind it, and only that one does. */
    private static void tape(Face desk, StringBuilder text) {
        see(desk, text, "feed", 0x6D65207570L, 5);
        see(desk, text, "rule", 0, 1);
        see(desk, text, "wipe");
    }
}

import java.util.Random;

/** Runs of 512 calls, drawn from fixed seeds, whose answers are those of the model. */
public final class RandomRunsTest {
    private static final int RUNS = 300;
    private static final int CALLS = 512;
    private static final String[] KEYS = {"rank", "paper", "name", "since", "kind", "state", "tongue"};
    private static final Check check = new Check();

    private final Random random;
    private final String run;
    private final ProtocolDesk desk = new ProtocolDesk();
    private final Model model = new Model();
    private int calls;

    private RandomRunsTest(int seed) {
        random = new Random(seed);
        run = "seed " + seed + ": ";
    }

    public static void main(String[] args) {
        for (int seed = 0; seed < RUNS; seed++) {
            new RandomRunsTest(seed).go();
        }
        for (int seed = 0; seed < 20000; seed++) {
            new RandomRunsTest(seed).readOneText();
        }
        check.finish();
    }

    private void go() {
        int states = 1 + random.nextInt(6);
        int persons = random.nextInt(20);
        for (int s = 0; s < states; s++) {
            state(random.nextInt(10), random.nextInt(3));
        }
        for (int p = 0; p < persons; p++) {
            person(random.nextInt(states), random.nextInt(6), random.nextInt(10), day(), 0);
        }
        while (calls < CALLS - 30) {
            step();
        }
    }

    private void readOneText() {
        String text = ruleText();
        write(text);
        due("rule of '" + text + "'", desk.rule(0, 9), model.rule(0, 9));
    }

    private void due(String call, int got, int due) {
        calls++;
        check.same(run + call, got, due);
    }

    private static String args(int... all) {
        return java.util.Arrays.toString(all);
    }

    /** Mostly less than n, at times just outside, seldom far outside. */
    private int near(int n) {
        int chance = random.nextInt(60);
        if (chance == 0) return -1;
        if (chance == 1) return n;
        if (chance == 2) return random.nextInt();
        return n > 0 ? random.nextInt(n) : 0;
    }

    private int someone() {
        return near(model.persons.size());
    }

    private int day() {
        return random.nextInt(4) == 0 ? near(10001) : near(12);
    }

    private int occasion() {
        return random.nextInt(20) == 0 ? near(10) : random.nextInt(3);
    }

    private int set() {
        int n = Math.max(1, model.persons.size());
        int set = 0;
        int many = random.nextInt(9);
        for (int i = 0; i < many; i++) {
            set |= 1 << random.nextInt(n);
        }
        return random.nextInt(20) == 0 ? set | 1 << random.nextInt(32) : set;
    }

    private void state(int name, int tongue) {
        due("state" + args(name, tongue), desk.state(name, tongue), model.state(name, tongue));
    }

    private void person(int s, int kind, int rank, int since, int of) {
        due("person" + args(s, kind, rank, since, of),
            desk.person(s, kind, rank, since, of), model.person(s, kind, rank, since, of));
    }

    private String test() {
        String field = KEYS[random.nextInt(7)];
        int number = field.equals("paper") ? random.nextInt(5) : random.nextInt(10);
        return (random.nextInt(3) == 0 ? "not " : "") + "ab".charAt(random.nextInt(2)) + "." + field
            + "=<>".charAt(random.nextInt(3)) + (random.nextInt(9) == 0 ? "0000000" : "") + number;
    }

    private String ruleText() {
        StringBuilder text = new StringBuilder("on ");
        text.append(random.nextInt(2) == 0 ? "*" : "" + random.nextInt(3)).append(' ');
        text.append(KEYS[random.nextInt(5)]).append(random.nextBoolean() ? " up" : " down");
        int tests = Math.max(0, random.nextInt(7) - 1);
        String joint = random.nextBoolean() ? " and " : " or ";
        for (int n = 0; n < tests; n++) {
            text.append(n == 0 ? " if " : joint).append(test());
            if (random.nextInt(20) == 0) joint = " and ";
        }
        if (random.nextInt(3) == 0) {
            spoil(text);
        }
        return text.toString();
    }

    private void spoil(StringBuilder text) {
        int at = random.nextInt(text.length());
        char sign = " abonrtuif.=<>*0123456789nd".charAt(random.nextInt(27));
        switch (random.nextInt(5)) {
            case 0: text.setCharAt(at, sign); break;
            case 1: text.insert(at, sign); break;
            case 2: text.deleteCharAt(at); break;
            case 3: text.setLength(at); break;
            default: text.append(sign); break;
        }
    }

    private void feed(long w, int n) {
        due("feed(" + w + ", " + n + ")", desk.feed(w, n), model.feed(w, n));
    }

    private void write(String text) {
        for (int at = 0; at < text.length(); at += 8) {
            long w = random.nextInt(2);
            int end = Math.min(at + 8, text.length());
            for (int i = at; i < end; i++) {
                w = w << 8 | text.charAt(i);
            }
            feed(w, end - at);
        }
    }

    private void step() {
        switch (random.nextInt(6)) {
            case 0: peopleStep(); break;
            case 1: ruleStep(); break;
            case 2: orderStep(); break;
            case 3: tableStep(); break;
            case 4: seatStep(); break;
            default: visitStep(); break;
        }
    }

    private void peopleStep() {
        int p = someone();
        switch (random.nextInt(7)) {
            case 0: state(near(100), near(8)); break;
            case 1: person(near(model.states.size()), near(6), near(10), day(), random.nextInt(2) * someone()); break;
            case 2: {
                int minute = random.nextInt(3) == 0 ? near(100000000) : random.nextInt(4);
                due("paper" + args(p, minute), desk.paper(p, minute), model.paper(p, minute));
                break;
            }
            case 3: {
                int is = random.nextInt(3) == 0 ? near(2) : 1;
                due("there" + args(p, is), desk.there(p, is), model.there(p, is));
                break;
            }
            case 4: {
                if (random.nextInt(4) != 0) break;
                int s = near(model.states.size());
                int name = near(100);
                int tongue = near(8);
                int set = set();
                due("split" + args(s, name, tongue, set),
                    desk.split(s, name, tongue, set), model.split(s, name, tongue, set));
                break;
            }
            case 5: due("dean", desk.dean(), model.dean()); break;
            default: {
                int what = near(9);
                due("about" + args(p, what), desk.about(p, what), model.about(p, what));
                break;
            }
        }
    }

    private void ruleStep() {
        int x = someone();
        int y = someone();
        int r = near(model.rules.size());
        switch (random.nextInt(8)) {
            case 0: feed(random.nextLong(), near(9)); break;
            case 1: due("wipe", desk.wipe(), model.wipe()); break;
            case 2: {
                int to = day();
                if (random.nextInt(3) == 0) due("ends" + args(r, to), desk.ends(r, to), model.ends(r, to));
                break;
            }
            case 3: if (random.nextInt(2) == 0) due("hand" + args(x, y), desk.hand(x, y), model.hand(x, y)); break;
            case 4: {
                int o = occasion();
                int day = day();
                due("decides" + args(r, o, day, x, y), desk.decides(r, o, day, x, y), model.decides(r, o, day, x, y));
                break;
            }
            default: {
                if (model.rules.size() >= 16 && random.nextInt(8) != 0) break;
                if (!model.tape.isEmpty() && random.nextInt(4) != 0) due("wipe", desk.wipe(), model.wipe());
                String text = ruleText();
                write(text);
                int from = near(8);
                int to = random.nextBoolean() ? 10000 : day();
                due("rule" + args(from, to) + text, desk.rule(from, to), model.rule(from, to));
                break;
            }
        }
    }

    private void orderStep() {
        int o = occasion();
        int day = day();
        int x = someone();
        int y = someone();
        int i = near(model.persons.size() + 1);
        due("ahead" + args(o, day, x, y), desk.ahead(o, day, x, y), model.ahead(o, day, x, y));
        due("why" + args(o, day, x, y), desk.why(o, day, x, y), model.why(o, day, x, y));
        due("quarrel" + args(o, day, x, y), desk.quarrel(o, day, x, y), model.quarrel(o, day, x, y));
        due("order" + args(o, day, i), desk.order(o, day, i), model.order(o, day, i));
        int j = near(4);
        due("ring" + args(o, day, j), desk.ring(o, day, j), model.ring(o, day, j));
    }

    private void tableStep() {
        int t = near(model.tables.size());
        switch (random.nextInt(4)) {
            case 0: {
                int round = near(2);
                int seats = random.nextInt(9) == 0 ? near(14) : 2 + near(11);
                due("table" + args(round, seats), desk.table(round, seats), model.table(round, seats));
                break;
            }
            case 1: {
                int a = near(model.states.size());
                int b = near(model.states.size());
                int is = near(2);
                due("feud" + args(a, b, is), desk.feud(a, b, is), model.feud(a, b, is));
                break;
            }
            case 2: {
                int u = random.nextInt(9) == 0 ? near(8) : random.nextInt(3);
                int v = random.nextInt(9) == 0 ? near(8) : random.nextInt(3);
                int cost = near(10);
                due("talk" + args(u, v, cost), desk.talk(u, v, cost), model.talk(u, v, cost));
                break;
            }
            default: due("close" + args(t), desk.close(t), model.close(t)); break;
        }
    }

    private void seatStep() {
        int t = near(model.tables.size());
        int seat = near(8);
        int p = someone();
        int o = occasion();
        int day = day();
        due("sit" + args(t, seat, p), desk.sit(t, seat, p), model.sit(t, seat, p));
        due("price" + args(t, o, day), desk.price(t, o, day), model.price(t, o, day));
        due("keeps" + args(t), desk.keeps(t), model.keeps(t));
        if (random.nextInt(2) == 0) {
            int set = set();
            due("lay" + args(t, o, day, set), desk.lay(t, o, day, set), model.lay(t, o, day, set));
            due("price" + args(t, o, day), desk.price(t, o, day), model.price(t, o, day));
        }
        for (int i = 0; i < 4; i++) {
            int at = near(12);
            due("seat" + args(t, at), desk.seat(t, at), model.seat(t, at));
        }
    }

    private void visitStep() {
        int x = random.nextInt(9) == 0 ? someone() : random.nextInt(4);
        int y = random.nextInt(9) == 0 ? someone() : random.nextInt(4);
        int day = random.nextInt(5) == 0 ? day() : random.nextInt(40);
        switch (random.nextInt(9)) {
            case 0: if (random.nextInt(3) == 0) due("card" + args(x, y), desk.card(x, y), model.card(x, y)); break;
            case 1: {
                int days = near(100);
                due("within" + args(days), desk.within(days), model.within(days));
                break;
            }
            case 2: {
                int what = near(8);
                due("count" + args(what), desk.count(what), model.count(what));
                break;
            }
            case 3: case 4: {
                int i = near(4);
                due("owes" + args(x, i, day), desk.owes(x, i, day), model.owes(x, i, day));
                break;
            }
            default: due("visit" + args(x, y, day), desk.visit(x, y, day), model.visit(x, y, day)); break;
        }
    }
}

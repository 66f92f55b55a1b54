import java.util.ArrayList;
import java.util.Arrays;
import java.util.Comparator;
import java.util.HashMap;
import java.util.List;
import java.util.Map;
import java.util.TreeMap;
import java.util.TreeSet;
import java.util.regex.Matcher;
import java.util.regex.Pattern;

/** The document once more, slowly and with the Java library: what random runs are compared with. */
final class Model {
    static final int NONE = -1;
    static final int BAD = -2;
    static final int STATE = -3;
    static final int FULL = -4;

    private static final String TEST =
        "(?:not )?[ab]\\.(?:rank|paper|name|since|kind|state|tongue)[=<>][0-9]{1,8}";
    private static final Pattern RULE = Pattern.compile(
        "on [*0-9] (?:rank|paper|name|since|kind) (?:up|down)"
        + "(?: if " + TEST + "(?:(?: and " + TEST + "){0,3}|(?: or " + TEST + "){0,3}))?");

    record State(int name, int tongue) { }

    static final class Person {
        int state, kind, rank, since, of, paper;
        boolean there = true;
    }

    static final class Rule {
        String[] words;
        int from, to;
    }

    static final class Table {
        boolean round;
        int n;
        final TreeMap<Integer, Integer> sits = new TreeMap<>();
    }

    record Visit(int by, int to, int day) { }

    final List<State> states = new ArrayList<>();
    final List<Person> persons = new ArrayList<>();
    final List<Rule> rules = new ArrayList<>();
    final List<int[]> hands = new ArrayList<>();
    final List<Table> tables = new ArrayList<>();
    final List<Visit> owed = new ArrayList<>();
    final Map<String, Integer> feuds = new HashMap<>();
    final Map<String, Integer> talks = new HashMap<>();
    String tape = "";
    int within = 10;

    private boolean isP(int p) {
        return p >= 0 && p < persons.size();
    }

    private static boolean isO(int o, int day) {
        return o >= 0 && o <= 9 && day >= 0;
    }

    private boolean isT(int t) {
        return t >= 0 && t < tables.size();
    }

    int state(int name, int tongue) {
        if (name < 0 || name > 99 || tongue < 0 || tongue > 7) return BAD;
        if (states.size() == 10) return FULL;
        states.add(new State(name, tongue));
        return states.size() - 1;
    }

    int person(int state, int kind, int rank, int since, int of) {
        if (state < 0 || state >= states.size()) return NONE;
        if ((kind == 3 || kind == 4) && !isP(of)) return NONE;
        if (kind < 0 || kind > 5 || rank < 0 || rank > 9 || since < 0 || since > 9999) return BAD;
        if (kind == 3 && persons.get(of).kind != 0 && persons.get(of).kind != 2) return BAD;
        if (kind == 4 && persons.get(of).kind != 0) return BAD;
        if (kind != 3 && kind != 4 && of != 0) return BAD;
        if (persons.size() == 20) return FULL;
        Person p = new Person();
        p.state = state;
        p.kind = kind;
        p.rank = rank;
        p.since = since;
        p.of = kind == 3 || kind == 4 ? of : NONE;
        persons.add(p);
        return persons.size() - 1;
    }

    int paper(int p, int minute) {
        if (!isP(p)) return NONE;
        if (minute < 0 || minute > 99999999) return BAD;
        int was = persons.get(p).paper;
        persons.get(p).paper = minute;
        return was;
    }

    int there(int p, int is) {
        if (!isP(p)) return NONE;
        if (is != 0 && is != 1) return BAD;
        int was = persons.get(p).there ? 1 : 0;
        persons.get(p).there = is == 1;
        if (is == 0) for (Table t : tables) t.sits.values().removeIf(q -> q == p);
        return was;
    }

    int split(int state, int name, int tongue, int set) {
        if (state < 0 || state >= states.size()) return NONE;
        for (int b = 0; b < 32; b++) if ((set >> b & 1) == 1 && !isP(b)) return BAD;
        int made = state(name, tongue);
        for (int b = 0; made >= 0 && b < persons.size(); b++) {
            if ((set >> b & 1) == 1 && persons.get(b).state == state) persons.get(b).state = made;
        }
        return made;
    }

    private int field(int p, String field) {
        Person x = persons.get(p);
        switch (field) {
            case "rank":
                if (x.kind == 3) return field(x.of, "rank");
                if (x.kind == 4) return Math.min(9, field(x.of, "rank") + 1);
                return x.kind == 0 && x.paper == 0 ? 9 : x.rank;
            case "paper":
                if (x.kind == 3) return field(x.of, "paper");
                return x.paper == 0 ? 99999999 : x.paper;
            case "name": return states.get(x.state).name;
            case "since": return x.since;
            case "kind": return x.kind;
            case "state": return x.state;
            default: return states.get(x.state).tongue;
        }
    }

    int about(int p, int what) {
        if (!isP(p) || what < 0 || what > 8) return NONE;
        if (what == 7) return persons.get(p).there ? 1 : 0;
        if (what == 8) return persons.get(p).of;
        return field(p, new String[] {"kind", "rank", "paper", "name", "since", "state", "tongue"}[what]);
    }

    int feed(long w, int n) {
        if (n < 1 || n > 8) return BAD;
        if (tape.length() + n > 200) return FULL;
        for (int i = n - 1; i >= 0; i--) tape += (char) (w >> 8 * i & 255);
        return tape.length();
    }

    int wipe() {
        int had = tape.length();
        tape = "";
        return had;
    }

    /** Where the first byte is with which no rule begins so; -1 if the text is a rule. */
    static int fault(String text) {
        for (int end = 1; end <= text.length(); end++) {
            Matcher m = RULE.matcher(text.substring(0, end));
            if (!m.matches() && !m.hitEnd()) return end - 1;
        }
        return RULE.matcher(text).matches() ? -1 : text.length();
    }

    int rule(int from, int to) {
        if (from < 0 || to <= from || to > 10000) return BAD;
        if (rules.size() == 16) return FULL;
        String text = tape;
        tape = "";
        int fault = fault(text);
        if (fault >= 0) return -10 - fault;
        Rule r = new Rule();
        r.words = text.split(" ");
        r.from = from;
        r.to = to;
        rules.add(r);
        return rules.size() - 1;
    }

    int ends(int rule, int to) {
        if (rule < 0 || rule >= rules.size()) return NONE;
        Rule r = rules.get(rule);
        if (to <= r.from || to >= r.to) return BAD;
        int was = r.to;
        r.to = to;
        return was;
    }

    private boolean holds(Rule r, int a, int b) {
        List<Boolean> results = new ArrayList<>();
        boolean not = false;
        boolean or = false;
        for (int i = 5; i < r.words.length; i++) {
            String word = r.words[i];
            if (word.equals("not")) {
                not = true;
            } else if (word.equals("or")) {
                or = true;
            } else if (!word.equals("and")) {
                String[] parts = word.substring(2).split("[=<>]");
                int value = field(word.charAt(0) == 'a' ? a : b, parts[0]);
                int number = Integer.parseInt(parts[1]);
                char sign = word.charAt(2 + parts[0].length());
                boolean is = sign == '=' ? value == number : sign == '<' ? value < number : value > number;
                results.add(is != not);
                not = false;
            }
        }
        return or ? results.contains(true) : !results.contains(false);
    }

    int decides(int rule, int o, int day, int x, int y) {
        if (rule < 0 || rule >= rules.size() || !isO(o, day) || !isP(x) || !isP(y) || x == y) return -2;
        Rule r = rules.get(rule);
        if (day < r.from || day >= r.to) return 0;
        if (!r.words[1].equals("*") && !r.words[1].equals("" + o)) return 0;
        if (!holds(r, x, y) && !holds(r, y, x)) return 0;
        int less = Integer.compare(field(y, r.words[2]), field(x, r.words[2]));
        return r.words[3].equals("up") ? less : -less;
    }

    int hand(int x, int y) {
        if (!isP(x) || !isP(y)) return NONE;
        if (x == y) return BAD;
        if (hands.size() == 20) return FULL;
        hands.add(new int[] {x, y});
        return hands.size();
    }

    int why(int o, int day, int x, int y) {
        if (!isO(o, day) || !isP(x) || !isP(y) || x == y) return NONE;
        for (int[] h : hands) if (h[0] == x && h[1] == y || h[0] == y && h[1] == x) return 100;
        int best = NONE;
        for (int r = 0; r < rules.size(); r++) {
            if (decides(r, o, day, x, y) == 0) continue;
            boolean star = rules.get(r).words[1].equals("*");
            if (best == NONE || !star || rules.get(best).words[1].equals("*")) best = r;
        }
        return best;
    }

    int ahead(int o, int day, int x, int y) {
        if (!isO(o, day) || !isP(x) || !isP(y) || x == y) return -2;
        int told = 0;
        for (int[] h : hands) {
            if (h[0] == x && h[1] == y) told = 1;
            if (h[0] == y && h[1] == x) told = -1;
        }
        int why = why(o, day, x, y);
        return told != 0 ? told : why == NONE ? 0 : decides(why, o, day, x, y);
    }

    int quarrel(int o, int day, int x, int y) {
        int why = why(o, day, x, y);
        if (why == NONE || why == 100) return NONE;
        for (int r = 0; r < rules.size(); r++) {
            if (decides(r, o, day, x, y) * decides(why, o, day, x, y) < 0) return r;
        }
        return NONE;
    }

    private List<Integer> lastRing;

    private List<Integer> whole(int o, int day) {
        TreeSet<Integer> left = new TreeSet<>();
        for (int p = 0; p < persons.size(); p++) if (persons.get(p).there) left.add(p);
        boolean[][] leads = new boolean[20][20];
        for (int p : left) for (int q : left) leads[p][q] = p != q && ahead(o, day, p, q) == 1;
        List<Integer> order = new ArrayList<>();
        lastRing = new ArrayList<>();
        while (!left.isEmpty()) {
            Integer next = null;
            for (int p : left) {
                if (next == null && left.stream().noneMatch(q -> leads[q][p])) next = p;
            }
            if (next == null) {
                next = left.first();
                if (lastRing.isEmpty()) {
                    List<Integer> walk = new ArrayList<>();
                    int one = next;
                    while (!walk.contains(one)) {
                        walk.add(one);
                        int before = one;
                        one = left.stream().filter(q -> leads[q][before]).findFirst().get();
                    }
                    lastRing = new ArrayList<>(walk.subList(walk.indexOf(one), walk.size()));
                }
            }
            order.add(next);
            left.remove(next);
        }
        return order;
    }

    int order(int o, int day, int i) {
        if (!isO(o, day)) return NONE;
        List<Integer> order = whole(o, day);
        return i < 0 || i >= order.size() ? NONE : order.get(i);
    }

    int ring(int o, int day, int i) {
        if (!isO(o, day)) return NONE;
        whole(o, day);
        return i < 0 || i >= lastRing.size() ? NONE : lastRing.get(i);
    }

    int dean() {
        List<Integer> all = new ArrayList<>();
        for (int p = 0; p < persons.size(); p++) {
            Person x = persons.get(p);
            if ((x.kind == 0 || x.kind == 5) && x.there && x.paper > 0) all.add(p);
        }
        Comparator<Integer> age = Comparator.comparingInt(p -> persons.get(p).since);
        age = age.thenComparingInt(p -> persons.get(p).paper);
        return all.stream().min(age.thenComparingInt(p -> p)).orElse(NONE);
    }

    int table(int round, int seats) {
        if (round < 0 || round > 1 || seats < 2 || seats > 12) return BAD;
        if (tables.size() == 4) return FULL;
        Table t = new Table();
        t.round = round == 1;
        t.n = seats;
        tables.add(t);
        return tables.size() - 1;
    }

    private static String two(int a, int b) {
        return Math.min(a, b) + " " + Math.max(a, b);
    }

    private static int was(Integer old) {
        return old == null ? 0 : old;
    }

    int feud(int a, int b, int is) {
        if (a < 0 || b < 0 || a >= states.size() || b >= states.size()) return NONE;
        if (a == b || is < 0 || is > 1) return BAD;
        return was(feuds.put(two(a, b), is));
    }

    int talk(int t, int u, int cost) {
        if (t < 0 || u < 0 || t > 7 || u > 7 || t == u || cost < 0 || cost > 9) return BAD;
        return was(talks.put(two(t, u), cost));
    }

    int sit(int table, int seat, int p) {
        if (!isT(table) || seat < 0 || seat >= tables.get(table).n || p != -1 && !isP(p)) return -5;
        if (p != -1 && !persons.get(p).there) return STATE;
        Table t = tables.get(table);
        Integer sat = t.sits.get(seat);
        t.sits.values().removeIf(q -> q == p);
        t.sits.remove(seat);
        if (p != -1) t.sits.put(seat, p);
        return sat == null ? NONE : sat;
    }

    private static boolean beside(Table t, int i, int j) {
        return Math.abs(i - j) == 1 || t.round && i != j && Math.min(i, j) == 0 && Math.max(i, j) == t.n - 1;
    }

    private int price(Table t, TreeMap<Integer, Integer> sits, List<Integer> order) {
        List<Integer> here = new ArrayList<>(order);
        here.retainAll(sits.values());
        int price = 0;
        for (int i : sits.keySet()) {
            price += Math.abs(here.indexOf(sits.get(i)) - i);
            for (int j : sits.keySet()) {
                int t1 = field(sits.get(i), "tongue");
                int t2 = field(sits.get(j), "tongue");
                if (i < j && t1 != t2 && beside(t, i, j)) price += was(talks.get(two(t1, t2)));
            }
        }
        return price;
    }

    private boolean keeps(Table t, TreeMap<Integer, Integer> sits) {
        for (int i : sits.keySet()) {
            for (int j : sits.keySet()) {
                boolean touch = beside(t, i, j) || !t.round && i != j && i + j == t.n - 1;
                int a = persons.get(sits.get(i)).state;
                int b = persons.get(sits.get(j)).state;
                if (touch && was(feuds.get(two(a, b))) == 1) return false;
            }
        }
        return true;
    }

    int price(int table, int o, int day) {
        if (!isT(table) || !isO(o, day)) return NONE;
        return price(tables.get(table), tables.get(table).sits, whole(o, day));
    }

    int keeps(int table) {
        if (!isT(table)) return NONE;
        return keeps(tables.get(table), tables.get(table).sits) ? 1 : 0;
    }

    int lay(int table, int o, int day, int set) {
        if (!isT(table) || !isO(o, day)) return NONE;
        Table t = tables.get(table);
        int many = Integer.bitCount(set);
        if (many < 1 || many > 7 || many > t.n) return BAD;
        List<Integer> guests = new ArrayList<>();
        for (int b = 0; b < 32; b++) if ((set >> b & 1) == 1) guests.add(b);
        for (int p : guests) if (!isP(p)) return BAD;
        for (int p : guests) if (!persons.get(p).there) return STATE;
        List<Integer> order = whole(o, day);
        TreeMap<Integer, Integer> best = null;
        int bestPrice = 0;
        int[] way = guests.stream().mapToInt(p -> p).toArray();
        do {
            TreeMap<Integer, Integer> sits = new TreeMap<>();
            for (int i = 0; i < way.length; i++) sits.put(i, way[i]);
            if (keeps(t, sits)) {
                int price = price(t, sits, order);
                if (best == null || price < bestPrice) {
                    best = sits;
                    bestPrice = price;
                }
            }
        } while (next(way));
        if (best == null) return -6;
        t.sits.clear();
        t.sits.putAll(best);
        return bestPrice;
    }

    /** The next way in the sequence of ways, the lesser ones on the first seats first. */
    private static boolean next(int[] way) {
        int i = way.length - 2;
        while (i >= 0 && way[i] > way[i + 1]) i--;
        if (i < 0) return false;
        int j = way.length - 1;
        while (way[j] < way[i]) j--;
        int kept = way[i];
        way[i] = way[j];
        way[j] = kept;
        Arrays.sort(way, i + 1, way.length);
        return true;
    }

    int close(int table) {
        if (!isT(table)) return NONE;
        TreeMap<Integer, Integer> sits = tables.get(table).sits;
        List<Integer> sitters = new ArrayList<>(sits.values());
        sits.clear();
        for (int i = 0; i < sitters.size(); i++) sits.put(i, sitters.get(i));
        return sitters.size();
    }

    int seat(int table, int i) {
        return isT(table) ? tables.get(table).sits.getOrDefault(i, NONE) : NONE;
    }

    int visit(int x, int y, int day) {
        if (!isP(x) || !isP(y)) return NONE;
        if (x == y || day < 0 || day > 9999) return BAD;
        for (Visit v : owed) {
            if (v.by == y && v.to == x) {
                owed.remove(owed.indexOf(v));
                return 1;
            }
        }
        if (owed.size() == 40) return FULL;
        owed.add(new Visit(x, y, day));
        return 0;
    }

    int card(int x, int y) {
        if (!isP(x) || !isP(y)) return NONE;
        int had = owed.size();
        owed.removeIf(v -> v.by == y && v.to == x);
        return had - owed.size();
    }

    int owes(int x, int i, int day) {
        List<Visit> all = owed.stream().filter(v -> v.to == x).toList();
        if (i < 0 || i >= all.size()) return NONE;
        Visit v = all.get(i);
        return 100 * v.by + ((long) day - v.day > within ? 1 : 0);
    }

    int within(int days) {
        if (days < 1 || days > 99) return BAD;
        int was = within;
        within = days;
        return was;
    }

    int count(int what) {
        switch (what) {
            case 0: return states.size();
            case 1: return persons.size();
            case 2: return rules.size();
            case 3: return hands.size();
            case 4: return tables.size();
            case 5: return owed.size();
            case 6: return tape.length();
            case 7: return (int) persons.stream().filter(p -> p.there).count();
            default: return NONE;
        }
    }
}

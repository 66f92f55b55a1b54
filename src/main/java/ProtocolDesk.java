import java.util.Arrays;

/**
 * An office for who goes before whom: persons of states, rules that are read as texts, whole orders
 * and rings, tables that are laid, and visits that are owed.
 *
 * The public methods look at every argument and refuse what the document refuses; the classes inside
 * rely on that. All rows are made with the object, so no later call makes anything.
 */
public final class ProtocolDesk {
    public static final int NONE = -1, BAD = -2, STATE = -3, FULL = -4;

    private static final int NOT_TWO = -2;
    private static final int BY_HAND = 100;
    private static final int FAULT_BASE = -10;
    private static final int NO_SUCH_SEAT = -5;
    private static final int NO_WAY = -6;
    private static final int LAST_DAY = 9999;

    private final Roll roll;
    private final Tape tape;
    private final Rulebook book;
    private final Procession procession;
    private final Hall hall;
    private final Seating seating;
    private final Calls calls;

    public ProtocolDesk() {
        roll = new Roll();
        tape = new Tape();
        book = new Rulebook(roll);
        procession = new Procession(roll, book);
        hall = new Hall(roll);
        seating = new Seating(hall);
        calls = new Calls();
    }

    // ---- states and persons

    public int state(int name, int tongue) {
        if (!Roll.isStateAsTold(name, tongue)) {
            return BAD;
        }
        return roll.states < Roll.MAX_STATES ? roll.addState(name, tongue) : FULL;
    }

    public int person(int state, int kind, int rank, int since, int of) {
        if (!roll.hasState(state)) {
            return NONE;
        }
        boolean ofAnother = Roll.isOfAnother(kind);
        if (ofAnother && !roll.hasPerson(of)) {
            return NONE;
        }
        boolean fits = ofAnother ? roll.canBeOf(kind, of) : of == 0;
        if (!fits || !Roll.isPersonAsTold(kind, rank, since)) {
            return BAD;
        }
        if (roll.persons >= Roll.MAX_PERSONS) {
            return FULL;
        }
        return roll.addPerson(state, kind, rank, since, ofAnother ? of : NONE);
    }

    public int paper(int p, int minute) {
        if (!roll.hasPerson(p)) {
            return NONE;
        }
        if (minute < 0 || minute > Roll.LAST_MINUTE) {
            return BAD;
        }
        return roll.handPaper(p, minute);
    }

    public int there(int p, int is) {
        if (!roll.hasPerson(p)) {
            return NONE;
        }
        if (is != 0 && is != 1) {
            return BAD;
        }
        int before = roll.present[p];
        roll.present[p] = is;
        if (is == 0) {
            hall.emptySeatsOf(p);
        }
        return before;
    }

    public int split(int state, int name, int tongue, int set) {
        if (!roll.hasState(state)) {
            return NONE;
        }
        if (!Roll.isStateAsTold(name, tongue) || !roll.isSetOfPersons(set)) {
            return BAD;
        }
        if (roll.states >= Roll.MAX_STATES) {
            return FULL;
        }
        int made = roll.addState(name, tongue);
        roll.moveHome(state, made, set);
        return made;
    }

    public int about(int p, int what) {
        if (!roll.hasPerson(p)) {
            return NONE;
        }
        switch (what) {
            case 0: return roll.fields[p][Roll.KIND];
            case 1: return roll.fields[p][Roll.RANK];
            case 2: return roll.fields[p][Roll.PAPER];
            case 3: return roll.fields[p][Roll.NAME];
            case 4: return roll.fields[p][Roll.SINCE];
            case 5: return roll.fields[p][Roll.HOME];
            case 6: return roll.fields[p][Roll.TONGUE];
            case 7: return roll.present[p];
            case 8: return roll.principals[p];
            default: return NONE;
        }
    }

    // ---- rules

    public int feed(long w, int n) {
        if (n < 1 || n > 8) {
            return BAD;
        }
        return tape.length + n <= Tape.MAX_BYTES ? tape.append(w, n) : FULL;
    }

    public int wipe() {
        return tape.clear();
    }

    public int rule(int from, int to) {
        if (from < 0 || from >= to || to > LAST_DAY + 1) {
            return BAD;
        }
        if (book.size >= Rulebook.MAX_RULES) {
            return FULL;
        }
        Rule next = book.rules[book.size];
        int fault = tape.readInto(next);
        tape.clear();
        if (fault != NONE) {
            return FAULT_BASE - fault;
        }
        next.first = from;
        next.end = to;
        book.size++;
        return book.size - 1;
    }

    public int ends(int rule, int to) {
        if (!book.hasRule(rule)) {
            return NONE;
        }
        Rule ended = book.rules[rule];
        int before = ended.end;
        if (to <= ended.first || to >= before) {
            return BAD;
        }
        ended.end = to;
        return before;
    }

    public int decides(int rule, int o, int day, int x, int y) {
        if (!book.hasRule(rule) || !isOccasion(o, day) || !areTwo(x, y)) {
            return NOT_TWO;
        }
        return book.rules[rule].verdict(roll, o, day, x, y);
    }

    public int hand(int x, int y) {
        if (!roll.hasPerson(x) || !roll.hasPerson(y)) {
            return NONE;
        }
        if (x == y) {
            return BAD;
        }
        return book.hands < Rulebook.MAX_HANDS ? book.addHand(x, y) : FULL;
    }

    // ---- orders

    public int ahead(int o, int day, int x, int y) {
        if (!isOccasion(o, day) || !areTwo(x, y)) {
            return NOT_TWO;
        }
        return book.leader(o, day, x, y);
    }

    public int why(int o, int day, int x, int y) {
        if (!isOccasion(o, day) || !areTwo(x, y)) {
            return NONE;
        }
        return book.toldByHand(x, y) != 0 ? BY_HAND : book.goingRule(o, day, x, y);
    }

    public int quarrel(int o, int day, int x, int y) {
        if (!isOccasion(o, day) || !areTwo(x, y)) {
            return NONE;
        }
        // where a hand tells it no rule goes, so there is none that could quarrel
        return book.toldByHand(x, y) != 0 ? NONE : book.contraryRule(o, day, x, y);
    }

    public int order(int o, int day, int i) {
        if (!isOccasion(o, day)) {
            return NONE;
        }
        procession.form(o, day);
        return i >= 0 && i < procession.length ? procession.places[i] : NONE;
    }

    public int ring(int o, int day, int i) {
        if (!isOccasion(o, day)) {
            return NONE;
        }
        procession.form(o, day);
        return i >= 0 && i < procession.ringLength ? procession.firstRing[i] : NONE;
    }

    public int dean() {
        return roll.eldestWithPaper();
    }

    // ---- tables

    public int table(int round, int seats) {
        if (round != 0 && round != 1 || seats < 2 || seats > Table.MAX_SEATS) {
            return BAD;
        }
        return hall.size < Hall.MAX_TABLES ? hall.addTable(round == 1, seats) : FULL;
    }

    public int feud(int a, int b, int is) {
        if (!roll.hasState(a) || !roll.hasState(b)) {
            return NONE;
        }
        if (a == b || is != 0 && is != 1) {
            return BAD;
        }
        return hall.setFeud(a, b, is);
    }

    public int talk(int t, int u, int cost) {
        if (!Roll.isTongue(t) || !Roll.isTongue(u) || t == u || cost < 0 || cost > 9) {
            return BAD;
        }
        return hall.setCost(t, u, cost);
    }

    public int sit(int table, int seat, int p) {
        if (!hall.hasSeat(table, seat) || p != NONE && !roll.hasPerson(p)) {
            return NO_SUCH_SEAT;
        }
        if (p != NONE && roll.present[p] == 0) {
            return STATE;
        }
        return hall.tables[table].put(seat, p);
    }

    public int price(int table, int o, int day) {
        if (!hall.hasTable(table) || !isOccasion(o, day)) {
            return NONE;
        }
        procession.form(o, day);
        return hall.priceOf(hall.tables[table], procession);
    }

    public int keeps(int table) {
        if (!hall.hasTable(table)) {
            return NONE;
        }
        return hall.isPeaceful(hall.tables[table]) ? 1 : 0;
    }

    public int lay(int table, int o, int day, int set) {
        if (!hall.hasTable(table) || !isOccasion(o, day)) {
            return NONE;
        }
        Table laid = hall.tables[table];
        int guests = Integer.bitCount(set);
        boolean fits = guests >= 1 && guests <= Seating.MAX_GUESTS && guests <= laid.size;
        if (!fits || !roll.isSetOfPersons(set)) {
            return BAD;
        }
        if (!roll.areAllPresent(set)) {
            return STATE;
        }
        procession.form(o, day);
        int best = seating.arrange(laid, procession, set);
        return best != NONE ? best : NO_WAY;
    }

    public int close(int table) {
        return hall.hasTable(table) ? hall.tables[table].moveUp() : NONE;
    }

    public int seat(int table, int i) {
        return hall.hasSeat(table, i) ? hall.tables[table].sitters[i] : NONE;
    }

    // ---- visits

    public int visit(int x, int y, int day) {
        if (!roll.hasPerson(x) || !roll.hasPerson(y)) {
            return NONE;
        }
        if (x == y || day < 0 || day > LAST_DAY) {
            return BAD;
        }
        // a returned visit needs no room, so it is looked for before FULL is told
        if (calls.settleOldest(x, y)) {
            return 1;
        }
        if (calls.size >= Calls.MAX_OWED) {
            return FULL;
        }
        calls.add(y, x, day);
        return 0;
    }

    public int card(int x, int y) {
        if (!roll.hasPerson(x) || !roll.hasPerson(y)) {
            return NONE;
        }
        return calls.settleAll(x, y);
    }

    public int owes(int x, int i, int day) {
        int found = roll.hasPerson(x) ? calls.find(x, i) : NONE;
        if (found == NONE) {
            return NONE;
        }
        return 100 * calls.creditors[found] + (calls.isLate(found, day) ? 1 : 0);
    }

    public int within(int days) {
        if (days < 1 || days > 99) {
            return BAD;
        }
        int before = calls.daysAllowed;
        calls.daysAllowed = days;
        return before;
    }

    public int count(int what) {
        switch (what) {
            case 0: return roll.states;
            case 1: return roll.persons;
            case 2: return book.size;
            case 3: return book.hands;
            case 4: return hall.size;
            case 5: return calls.size;
            case 6: return tape.length;
            case 7: return roll.countPresent();
            default: return NONE;
        }
    }

    private static boolean isOccasion(int o, int day) {
        return o >= 0 && o <= 9 && day >= 0;
    }

    private boolean areTwo(int x, int y) {
        return roll.hasPerson(x) && roll.hasPerson(y) && x != y;
    }

    /** The states, the persons and the fields that rules look at. */
    private static final class Roll {
        static final int MAX_STATES = 10;
        static final int MAX_PERSONS = 20;
        static final int LAST_MINUTE = 99999999;
        static final int TONGUES = 8;
        static final int WORST_RANK = 9;

        static final int ENVOY = 0;
        static final int GUEST = 2;
        static final int CONSORT = 3;
        static final int DEPUTY = 4;
        static final int ELDER = 5;

        // in the sequence in which the tape's word lists have them
        static final int RANK = 0;
        static final int PAPER = 1;
        static final int NAME = 2;
        static final int SINCE = 3;
        static final int KIND = 4;
        static final int HOME = 5;
        static final int TONGUE = 6;
        static final int FIELDS = 7;

        int states;
        int persons;
        final int[] present = new int[MAX_PERSONS];
        final int[] principals = new int[MAX_PERSONS];
        // kept as rules see them, since an order looks at them for each two persons
        final int[][] fields = new int[MAX_PERSONS][FIELDS];
        private final int[] names = new int[MAX_STATES];
        private final int[] tongues = new int[MAX_STATES];
        private final int[] ranks = new int[MAX_PERSONS];
        private final int[] papers = new int[MAX_PERSONS];

        static boolean isTongue(int tongue) {
            return tongue >= 0 && tongue < TONGUES;
        }

        static boolean isStateAsTold(int name, int tongue) {
            return name >= 0 && name <= 99 && isTongue(tongue);
        }

        static boolean isPersonAsTold(int kind, int rank, int since) {
            return kind >= ENVOY && kind <= ELDER
                && rank >= 0 && rank <= WORST_RANK
                && since >= 0 && since <= LAST_DAY;
        }

        static boolean isOfAnother(int kind) {
            return kind == CONSORT || kind == DEPUTY;
        }

        boolean hasState(int s) {
            return s >= 0 && s < states;
        }

        boolean hasPerson(int p) {
            return p >= 0 && p < persons;
        }

        boolean canBeOf(int kind, int of) {
            return isOfKind(of, ENVOY) || kind == CONSORT && isOfKind(of, GUEST);
        }

        boolean isSetOfPersons(int set) {
            return set >>> persons == 0;
        }

        int addState(int name, int tongue) {
            names[states] = name;
            tongues[states] = tongue;
            states++;
            return states - 1;
        }

        int addPerson(int home, int kind, int rank, int since, int principal) {
            int p = persons;
            persons++;
            fields[p][KIND] = kind;
            fields[p][SINCE] = since;
            ranks[p] = rank;
            papers[p] = 0;
            principals[p] = principal;
            present[p] = 1;
            setHome(p, home);
            refreshFields(p);
            return p;
        }

        int handPaper(int p, int minute) {
            int before = papers[p];
            papers[p] = minute;
            // those who are of this one have its rank or paper, too
            for (int q = p; q < persons; q++) {
                refreshFields(q);
            }
            return before;
        }

        void moveHome(int from, int to, int set) {
            for (int p = 0; p < persons; p++) {
                if (isIn(set, p) && fields[p][HOME] == from) {
                    setHome(p, to);
                }
            }
        }

        private void setHome(int p, int home) {
            fields[p][HOME] = home;
            fields[p][NAME] = names[home];
            fields[p][TONGUE] = tongues[home];
        }

        private void refreshFields(int p) {
            fields[p][RANK] = rankOf(p);
            fields[p][PAPER] = paperOf(isOfKind(p, CONSORT) ? principals[p] : p);
        }

        private boolean isOfKind(int p, int kind) {
            return fields[p][KIND] == kind;
        }

        static boolean isIn(int set, int p) {
            return (set >>> p & 1) == 1;
        }

        boolean areAllPresent(int set) {
            for (int p = 0; p < persons; p++) {
                if (isIn(set, p) && present[p] == 0) {
                    return false;
                }
            }
            return true;
        }

        int countPresent() {
            int found = 0;
            for (int p = 0; p < persons; p++) {
                found += present[p];
            }
            return found;
        }

        private int rankOf(int p) {
            switch (fields[p][KIND]) {
                case CONSORT: return ownRankOf(principals[p]);
                case DEPUTY: return Math.min(ownRankOf(principals[p]) + 1, WORST_RANK);
                default: return ownRankOf(p);
            }
        }

        private int ownRankOf(int p) {
            return isOfKind(p, ENVOY) && papers[p] == 0 ? WORST_RANK : ranks[p];
        }

        private int paperOf(int p) {
            return papers[p] == 0 ? LAST_MINUTE : papers[p];
        }

        int eldestWithPaper() {
            int best = NONE;
            for (int p = 0; p < persons; p++) {
                if (canBeDean(p) && (best == NONE || isElder(p, best))) {
                    best = p;
                }
            }
            return best;
        }

        private boolean canBeDean(int p) {
            boolean ofSuchKind = isOfKind(p, ENVOY) || isOfKind(p, ELDER);
            return ofSuchKind && present[p] == 1 && papers[p] != 0;
        }

        private boolean isElder(int p, int q) {
            int since = fields[p][SINCE];
            int other = fields[q][SINCE];
            return since < other || since == other && papers[p] < papers[q];
        }
    }

    /** The tape's bytes, and the reading of a rule from them. */
    private static final class Tape {
        static final int MAX_BYTES = 200;
        private static final int MAX_DIGITS = 8;
        private static final String OCCASIONS = "* 0 1 2 3 4 5 6 7 8 9";
        private static final String KEYS = "rank paper name since kind";
        private static final String FIELDS = "rank paper name since kind state tongue";

        int length;
        private final int[] bytes = new int[MAX_BYTES];
        private int at;
        private int fault;

        int append(long w, int n) {
            for (int i = n - 1; i >= 0; i--) {
                bytes[length] = (int) (w >>> 8 * i) & 255;
                length++;
            }
            return length;
        }

        int clear() {
            int before = length;
            length = 0;
            return before;
        }

        /**
         * Reads the whole tape as a rule: the fault's place, or NONE. Behind a fault all reading
         * stands still, so the steps below need not ask after each word.
         */
        int readInto(Rule rule) {
            at = 0;
            fault = NONE;
            rule.tests = 0;
            rule.oneSuffices = false;
            readHead(rule);
            if (hasMore()) {
                readTests(rule);
            }
            if (hasMore()) {
                fail(at);
            }
            return fault;
        }

        private void readHead(Rule rule) {
            readWord("on");
            readBlank();
            rule.occasion = readWord(OCCASIONS) - 1;
            readBlank();
            rule.key = readWord(KEYS);
            readBlank();
            rule.down = readWord("up down") == 1;
        }

        private void readTests(Rule rule) {
            readBlank();
            readWord("if");
            readBlank();
            readTest(rule, 0);
            for (int n = 1; n < Rule.MAX_TESTS && hasMore(); n++) {
                readBlank();
                if (n == 1) {
                    rule.oneSuffices = readWord("and or") == 1;
                } else {
                    readWord(rule.oneSuffices ? "or" : "and");
                }
                readBlank();
                readTest(rule, n);
            }
        }

        private void readTest(Rule rule, int n) {
            int begin = readWord("a b not");
            rule.negated[n] = begin == 2;
            if (rule.negated[n]) {
                readBlank();
                begin = readWord("a b");
            }
            rule.ofSecond[n] = begin == 1;
            readWord(".");
            rule.fields[n] = readWord(FIELDS);
            rule.signs[n] = readWord("= < >");
            rule.numbers[n] = readNumber();
            rule.tests = n + 1;
        }

        /** One word of a list with blanks between, none of which begins another: its index. */
        private int readWord(String list) {
            if (fault != NONE) {
                return NONE;
            }
            int index = 0;
            int matched = 0;
            int longest = 0;
            boolean fits = true;
            for (int i = 0; i <= list.length(); i++) {
                boolean wordEnds = i == list.length() || list.charAt(i) == ' ';
                if (wordEnds && fits) {
                    at += matched;
                    return index;
                }
                if (wordEnds) {
                    index++;
                    matched = 0;
                    fits = true;
                } else if (fits && byteAt(at + matched) == list.charAt(i)) {
                    matched++;
                    longest = Math.max(longest, matched);
                } else {
                    fits = false;
                }
            }
            fail(at + longest);
            return NONE;
        }

        private void readBlank() {
            if (fault == NONE && byteAt(at) == ' ') {
                at++;
            } else {
                fail(at);
            }
        }

        private int readNumber() {
            int value = 0;
            int digits = 0;
            while (fault == NONE && digits < MAX_DIGITS && isDigit(byteAt(at))) {
                value = 10 * value + byteAt(at) - '0';
                digits++;
                at++;
            }
            if (digits == 0) {
                fail(at);
            }
            return value;
        }

        private static boolean isDigit(int b) {
            return b >= '0' && b <= '9';
        }

        private int byteAt(int place) {
            return place >= 0 && place < length ? bytes[place] : NONE;
        }

        private boolean hasMore() {
            return fault == NONE && at < length;
        }

        private void fail(int place) {
            if (fault == NONE) {
                fault = place;
            }
        }
    }

    /** A rule as it was read, with the days on which it is in force. */
    private static final class Rule {
        static final int MAX_TESTS = 4;
        static final int ANY_OCCASION = -1;

        int occasion;
        int key;
        boolean down;
        boolean oneSuffices;
        int tests;
        int first;
        int end;
        final boolean[] negated = new boolean[MAX_TESTS];
        final boolean[] ofSecond = new boolean[MAX_TESTS];
        final int[] fields = new int[MAX_TESTS];
        final int[] signs = new int[MAX_TESTS];
        final int[] numbers = new int[MAX_TESTS];

        private boolean isFor(int o, int day) {
            return day >= first && day < end && (occasion == ANY_OCCASION || occasion == o);
        }

        /** 1 the first, -1 the second is ahead, 0 it does not decide. */
        int verdict(Roll roll, int o, int day, int x, int y) {
            int own = roll.fields[x][key];
            int other = roll.fields[y][key];
            if (own == other || !isFor(o, day) || !holds(roll, x, y) && !holds(roll, y, x)) {
                return 0;
            }
            return own < other != down ? 1 : -1;
        }

        private boolean holds(Roll roll, int a, int b) {
            for (int n = 0; n < tests; n++) {
                int value = roll.fields[ofSecond[n] ? b : a][fields[n]];
                boolean passed = isAsTold(n, value) != negated[n];
                if (passed == oneSuffices) {
                    return passed;
                }
            }
            return !oneSuffices;
        }

        private boolean isAsTold(int n, int value) {
            switch (signs[n]) {
                case 0: return value == numbers[n];
                case 1: return value < numbers[n];
                default: return value > numbers[n];
            }
        }
    }

    /** The rules and the hands, and what they say of two persons. */
    private static final class Rulebook {
        static final int MAX_RULES = 16;
        static final int MAX_HANDS = 20;

        int size;
        int hands;
        final Rule[] rules = new Rule[MAX_RULES];
        private final int[] handFirst = new int[MAX_HANDS];
        private final int[] handSecond = new int[MAX_HANDS];
        private final Roll roll;

        Rulebook(Roll roll) {
            this.roll = roll;
            for (int r = 0; r < MAX_RULES; r++) {
                rules[r] = new Rule();
            }
        }

        boolean hasRule(int r) {
            return r >= 0 && r < size;
        }

        int addHand(int x, int y) {
            handFirst[hands] = x;
            handSecond[hands] = y;
            hands++;
            return hands;
        }

        int toldByHand(int x, int y) {
            for (int h = hands - 1; h >= 0; h--) {
                if (handFirst[h] == x && handSecond[h] == y) {
                    return 1;
                }
                if (handFirst[h] == y && handSecond[h] == x) {
                    return -1;
                }
            }
            return 0;
        }

        int leader(int o, int day, int x, int y) {
            int told = toldByHand(x, y);
            if (told != 0) {
                return told;
            }
            int going = goingRule(o, day, x, y);
            return going == NONE ? 0 : rules[going].verdict(roll, o, day, x, y);
        }

        int goingRule(int o, int day, int x, int y) {
            int general = NONE;
            for (int r = size - 1; r >= 0; r--) {
                boolean forAny = rules[r].occasion == Rule.ANY_OCCASION;
                if (forAny && general != NONE || rules[r].verdict(roll, o, day, x, y) == 0) {
                    continue;
                }
                if (!forAny) {
                    return r;
                }
                general = r;
            }
            return general;
        }

        int contraryRule(int o, int day, int x, int y) {
            int going = goingRule(o, day, x, y);
            if (going == NONE) {
                return NONE;
            }
            int said = rules[going].verdict(roll, o, day, x, y);
            for (int r = 0; r < size; r++) {
                if (rules[r].verdict(roll, o, day, x, y) == -said) {
                    return r;
                }
            }
            return NONE;
        }
    }

    /** The order of all who are there, and the ring that came first in it. */
    private static final class Procession {
        int length;
        int ringLength;
        final int[] places = new int[Roll.MAX_PERSONS];
        final int[] firstRing = new int[Roll.MAX_PERSONS];
        private final boolean[] left = new boolean[Roll.MAX_PERSONS];
        private final int[] walk = new int[Roll.MAX_PERSONS];
        private final int[] stepOf = new int[Roll.MAX_PERSONS];
        private final int[][] leads = new int[Roll.MAX_PERSONS][Roll.MAX_PERSONS];
        private final Roll roll;
        private final Rulebook book;

        Procession(Roll roll, Rulebook book) {
            this.roll = roll;
            this.book = book;
        }

        void form(int o, int day) {
            length = 0;
            ringLength = 0;
            for (int p = 0; p < Roll.MAX_PERSONS; p++) {
                left[p] = p < roll.persons && roll.present[p] == 1;
            }
            for (int p = 0; p < roll.persons; p++) {
                for (int q = p + 1; q < roll.persons; q++) {
                    leads[p][q] = left[p] && left[q] ? book.leader(o, day, p, q) : 0;
                    leads[q][p] = -leads[p][q];
                }
            }
            int all = roll.countPresent();
            for (int i = 0; i < all; i++) {
                takeNext();
            }
        }

        private void takeNext() {
            int next = leastUnled();
            if (next == NONE) {
                next = leastLeft();
                if (next == NONE) {
                    return;
                }
                if (ringLength == 0) {
                    tellRing(next);
                }
            }
            left[next] = false;
            places[length] = next;
            length++;
        }

        private int leastLeft() {
            for (int p = 0; p < roll.persons; p++) {
                if (left[p]) {
                    return p;
                }
            }
            return NONE;
        }

        private int leastUnled() {
            for (int p = 0; p < roll.persons; p++) {
                if (left[p] && leastAheadOf(p) == NONE) {
                    return p;
                }
            }
            return NONE;
        }

        private int leastAheadOf(int p) {
            for (int q = 0; q < roll.persons; q++) {
                if (q != p && left[q] && leads[q][p] == 1) {
                    return q;
                }
            }
            return NONE;
        }

        private void tellRing(int start) {
            Arrays.fill(stepOf, NONE);
            int one = start;
            int steps = 0;
            while (steps < Roll.MAX_PERSONS && one != NONE && stepOf[one] == NONE) {
                stepOf[one] = steps;
                walk[steps] = one;
                steps++;
                one = leastAheadOf(one);
            }
            if (one == NONE || stepOf[one] == NONE) {
                return;
            }
            for (int i = stepOf[one]; i < steps; i++) {
                firstRing[ringLength] = walk[i];
                ringLength++;
            }
        }
    }

    /** A table; of two seats that touch, the higher one names the lower one, so each two come once. */
    private static final class Table {
        static final int MAX_SEATS = 12;

        int size;
        final int[] sitters = new int[MAX_SEATS];
        private boolean round;

        void open(boolean isRound, int seats) {
            round = isRound;
            size = seats;
            Arrays.fill(sitters, NONE);
        }

        int lowerBeside(int i) {
            return i > 0 ? i - 1 : NONE;
        }

        /** The first seat, for the last one of a round table; with two seats they are beside already. */
        int lowerAround(int i) {
            return round && size > 2 && i == size - 1 ? 0 : NONE;
        }

        int lowerFacing(int i) {
            int facing = size - 1 - i;
            return !round && facing >= 0 && facing < i ? facing : NONE;
        }

        int put(int seat, int p) {
            int before = sitters[seat];
            if (p != NONE) {
                removePerson(p);
            }
            sitters[seat] = p;
            return before;
        }

        void removePerson(int p) {
            for (int i = 0; i < size; i++) {
                if (sitters[i] == p) {
                    sitters[i] = NONE;
                }
            }
        }

        int moveUp() {
            int moved = 0;
            for (int i = 0; i < size; i++) {
                int p = sitters[i];
                if (p != NONE) {
                    sitters[i] = NONE;
                    sitters[moved] = p;
                    moved++;
                }
            }
            return moved;
        }

        int sittersAsSet() {
            int set = 0;
            for (int i = 0; i < size; i++) {
                if (sitters[i] != NONE) {
                    set |= 1 << sitters[i];
                }
            }
            return set;
        }
    }

    /** The tables, the feuds of states and what tongues cost one another. */
    private static final class Hall {
        static final int MAX_TABLES = 4;

        int size;
        final Table[] tables = new Table[MAX_TABLES];
        private final int[][] feuds = new int[Roll.MAX_STATES][Roll.MAX_STATES];
        private final int[][] costs = new int[Roll.TONGUES][Roll.TONGUES];
        private final int[] placeOf = new int[Roll.MAX_PERSONS];
        private final Roll roll;

        Hall(Roll roll) {
            this.roll = roll;
            for (int t = 0; t < MAX_TABLES; t++) {
                tables[t] = new Table();
            }
        }

        boolean hasTable(int t) {
            return t >= 0 && t < size;
        }

        boolean hasSeat(int t, int i) {
            return hasTable(t) && i >= 0 && i < tables[t].size;
        }

        int addTable(boolean round, int seats) {
            tables[size].open(round, seats);
            size++;
            return size - 1;
        }

        int setFeud(int a, int b, int is) {
            int before = feuds[a][b];
            feuds[a][b] = is;
            feuds[b][a] = is;
            return before;
        }

        int setCost(int t, int u, int cost) {
            int before = costs[t][u];
            costs[t][u] = cost;
            costs[u][t] = cost;
            return before;
        }

        void emptySeatsOf(int p) {
            for (int t = 0; t < size; t++) {
                tables[t].removePerson(p);
            }
        }

        /** Numbers the persons of a set in the sequence of the order, for priceAt to look at. */
        void numberPlaces(Procession procession, int set) {
            int place = 0;
            for (int i = 0; i < procession.length; i++) {
                int p = procession.places[i];
                if (Roll.isIn(set, p)) {
                    placeOf[p] = place;
                    place++;
                }
            }
        }

        int priceOf(Table table, Procession procession) {
            numberPlaces(procession, table.sittersAsSet());
            int price = 0;
            for (int i = 0; i < table.size; i++) {
                price += priceAt(table, table.sitters, i);
            }
            return price;
        }

        boolean isPeaceful(Table table) {
            for (int i = 0; i < table.size; i++) {
                if (!isPeacefulAt(table, table.sitters, i)) {
                    return false;
                }
            }
            return true;
        }

        /** What a seat adds to the price of the lower ones, with the sitters of a row. */
        int priceAt(Table table, int[] row, int i) {
            int p = row[i];
            if (p == NONE) {
                return 0;
            }
            return Math.abs(placeOf[p] - i)
                + talkCost(p, sitterAt(row, table.lowerBeside(i)))
                + talkCost(p, sitterAt(row, table.lowerAround(i)));
        }

        /** Whether a seat keeps with the lower ones, with the sitters of a row. */
        boolean isPeacefulAt(Table table, int[] row, int i) {
            int p = row[i];
            return !areFeuding(p, sitterAt(row, table.lowerBeside(i)))
                && !areFeuding(p, sitterAt(row, table.lowerAround(i)))
                && !areFeuding(p, sitterAt(row, table.lowerFacing(i)));
        }

        private static int sitterAt(int[] row, int i) {
            return i == NONE ? NONE : row[i];
        }

        private int talkCost(int p, int q) {
            return p == NONE || q == NONE ? 0 : costs[tongueOf(p)][tongueOf(q)];
        }

        private boolean areFeuding(int p, int q) {
            return p != NONE && q != NONE && feuds[homeOf(p)][homeOf(q)] == 1;
        }

        private int tongueOf(int p) {
            return roll.fields[p][Roll.TONGUE];
        }

        private int homeOf(int p) {
            return roll.fields[p][Roll.HOME];
        }
    }

    /** The search for the way in which a table is laid best. */
    private static final class Seating {
        static final int MAX_GUESTS = 7;
        // far above any price
        private static final int NOTHING_FOUND = 1000000;

        private final int[] guests = new int[MAX_GUESTS];
        private final boolean[] seated = new boolean[MAX_GUESTS];
        private final int[] row = new int[Table.MAX_SEATS];
        private final int[] bestRow = new int[Table.MAX_SEATS];
        private final Hall hall;
        private int guestCount;
        private int bestPrice;

        Seating(Hall hall) {
            this.hall = hall;
        }

        /** Lays the table with a set: the price, or NONE if no way keeps. */
        int arrange(Table table, Procession procession, int set) {
            gatherGuests(set);
            hall.numberPlaces(procession, set);
            Arrays.fill(row, NONE);
            Arrays.fill(bestRow, NONE);
            bestPrice = NOTHING_FOUND;
            fillFrom(table, 0, 0);
            if (bestPrice == NOTHING_FOUND) {
                return NONE;
            }
            System.arraycopy(bestRow, 0, table.sitters, 0, Table.MAX_SEATS);
            return bestPrice;
        }

        private void gatherGuests(int set) {
            guestCount = 0;
            for (int p = 0; p < Roll.MAX_PERSONS && guestCount < MAX_GUESTS; p++) {
                if (Roll.isIn(set, p)) {
                    guests[guestCount] = p;
                    seated[guestCount] = false;
                    guestCount++;
                }
            }
        }

        /**
         * Tries the guests on the seats from one on, lesser persons first: of ways with like prices
         * the first one found is the one that the document wants, so only a lesser price replaces it.
         */
        private void fillFrom(Table table, int seat, int price) {
            if (price >= bestPrice) {
                return;
            }
            if (seat >= guestCount) {
                bestPrice = price;
                System.arraycopy(row, 0, bestRow, 0, guestCount);
                return;
            }
            for (int g = 0; g < guestCount; g++) {
                if (seated[g]) {
                    continue;
                }
                row[seat] = guests[g];
                if (hall.isPeacefulAt(table, row, seat)) {
                    seated[g] = true;
                    fillFrom(table, seat + 1, price + hall.priceAt(table, row, seat));
                    seated[g] = false;
                }
            }
        }
    }

    /** The visits that are owed, the oldest first. */
    private static final class Calls {
        static final int MAX_OWED = 40;

        int size;
        int daysAllowed = 10;
        final int[] creditors = new int[MAX_OWED];
        private final int[] debtors = new int[MAX_OWED];
        private final int[] days = new int[MAX_OWED];

        void add(int debtor, int creditor, int day) {
            debtors[size] = debtor;
            creditors[size] = creditor;
            days[size] = day;
            size++;
        }

        boolean settleOldest(int debtor, int creditor) {
            for (int v = 0; v < size; v++) {
                if (isBetween(v, debtor, creditor)) {
                    remove(v);
                    return true;
                }
            }
            return false;
        }

        int settleAll(int debtor, int creditor) {
            int settled = 0;
            for (int v = size - 1; v >= 0; v--) {
                if (isBetween(v, debtor, creditor)) {
                    remove(v);
                    settled++;
                }
            }
            return settled;
        }

        int find(int debtor, int i) {
            int seen = 0;
            for (int v = 0; v < size; v++) {
                if (debtors[v] == debtor) {
                    if (seen == i) {
                        return v;
                    }
                    seen++;
                }
            }
            return NONE;
        }

        boolean isLate(int v, int day) {
            return day > days[v] + daysAllowed;
        }

        private boolean isBetween(int v, int debtor, int creditor) {
            return debtors[v] == debtor && creditors[v] == creditor;
        }

        private void remove(int v) {
            size--;
            for (int i = v; i < size; i++) {
                debtors[i] = debtors[i + 1];
                creditors[i] = creditors[i + 1];
                days[i] = days[i + 1];
            }
        }
    }
}

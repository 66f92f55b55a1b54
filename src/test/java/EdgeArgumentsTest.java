import java.util.ArrayList;
import java.util.Arrays;
import java.util.LinkedHashSet;
import java.util.List;
import java.util.Set;

/**
 * Each call with all combinations of arguments at their edges, on an empty, a busy and a full desk: the
 * answers are those of the model, and what is refused changes nothing.
 */
public final class EdgeArgumentsTest {
    private static final int LEAST = Integer.MIN_VALUE;
    private static final int GREATEST = Integer.MAX_VALUE;
    // room for what a view calls, and for those that built the desk
    private static final int CALLS_OF_ONE_DESK = 60;
    private static final String[] CALLS = {
        "state name tongue", "person state kind rank day person", "paper person minute", "there person flag",
        "split state name tongue set", "about person what", "feed word bytes", "wipe", "rule from to", "ends rule to",
        "decides rule occasion day person person", "hand person person", "ahead occasion day person person",
        "why occasion day person person", "quarrel occasion day person person", "order occasion day place",
        "ring occasion day place", "dean", "table flag seats", "feud state state flag", "talk tongue tongue cost",
        "sit table seat person", "price table occasion day", "keeps table", "lay table occasion day set", "close table",
        "seat table seat", "visit person person day", "card person person", "owes person place day", "within days",
        "count what",
    };
    private static final Set<String> CHANGING = Set.of("state", "person", "paper", "there", "split", "feed", "wipe",
        "rule", "ends", "hand", "table", "feud", "talk", "sit", "lay", "close", "visit", "card", "within");
    private static final Check check = new Check();

    /** How a desk and the model are brought to where a call is tried. */
    private enum Start { EMPTY, BUSY, FULL }

    private final Start start;
    private final int states;
    private final int persons;
    private final int rules;
    private final int tables;
    private Face desk;
    private Face model;
    private int refusals;
    private int views;

    private EdgeArgumentsTest(Start start) {
        this.start = start;
        renew();
        states = desk.call("count", 0);
        persons = desk.call("count", 1);
        rules = desk.call("count", 2);
        tables = desk.call("count", 4);
    }

    public static void main(String[] args) {
        for (Start start : Start.values()) {
            EdgeArgumentsTest test = new EdgeArgumentsTest(start);
            for (String call : CALLS) {
                test.tryAll(call.split(" "));
            }
        }
        check.finish();
    }

    private void renew() {
        desk = begin(new Face(new ProtocolDesk()));
        model = begin(new Face(new Model()));
        refusals = 0;
    }

    private Face begin(Face face) {
        if (start == Start.BUSY) {
            Scene.busy(face);
        } else if (start == Start.FULL) {
            Scene.full(face);
        }
        return face;
    }

    private void tryAll(String[] call) {
        List<long[]> values = new ArrayList<>();
        int all = 1;
        for (int i = 1; i < call.length; i++) {
            long[] edges = edgesOf(call[i]);
            values.add(edges);
            all *= edges.length;
        }
        for (int n = 0; n < all; n++) {
            long[] args = new long[values.size()];
            int rest = n;
            for (int i = 0; i < args.length; i++) {
                long[] edges = values.get(i);
                args[i] = edges[rest % edges.length];
                rest /= edges.length;
            }
            tryOne(call[0], args);
        }
        seeThatNothingChanged(call[0]);
    }

    private void tryOne(String name, long[] args) {
        int due = model.call(name, args);
        String what = start + ": " + name + Arrays.toString(args);
        check.same(what, desk.call(name, args), due);
        // sit answers NONE where nobody sat, which is no refusal
        boolean taken = CHANGING.contains(name) && (due >= 0 || name.equals("sit") || due <= -10);
        if (taken) {
            View view = nextView();
            check.isTrue(what + " leaves " + view + " as the model has it", view.of(desk).equals(view.of(model)));
            renew();
            return;
        }
        refusals++;
        if (refusals == CALLS_OF_ONE_DESK) {
            seeThatNothingChanged(name);
        }
    }

    private void seeThatNothingChanged(String name) {
        View view = nextView();
        String fresh = view.of(begin(new Face(new ProtocolDesk())));
        check.isTrue(start + ": refusals of " + name + " change " + view, view.of(desk).equals(fresh));
        renew();
    }

    private View nextView() {
        views++;
        return View.values()[views % View.values().length];
    }

    private long[] edgesOf(String kind) {
        switch (kind) {
            case "name": return edges(0, 99);
            case "tongue": return edges(0, 7);
            case "state": return edges(0, states - 1);
            case "kind": return edges(0, 5, 2, 3, 4);
            case "rank": return edges(0, 9);
            case "day": return edges(0, 9999);
            case "person": case "place": return edges(0, persons - 1, 1, 2, 4);
            case "minute": return edges(0, 99999999, 1);
            case "flag": return edges(0, 1);
            case "set": return edges(0, (1L << persons) - 1, 1, 3, 5, 16, 0b1101111, LEAST + 1);
            case "what": return edges(0, 8, 1, 2, 3, 4, 5, 6, 7);
            case "word": return new long[] {0, 1, -1, Long.MIN_VALUE, Long.MAX_VALUE, 0x6F6E202A2072616EL};
            case "bytes": return edges(1, 8);
            case "from": return edges(0, 10000, 9999);
            case "to": return edges(0, 10000, 2, 3, 4999, 5000, 8999, 9000);
            case "rule": return edges(0, rules - 1);
            case "occasion": return edges(0, 9, 1);
            case "seats": return edges(2, 12);
            case "cost": return edges(0, 9);
            case "table": return edges(0, tables - 1, 1);
            case "seat": return edges(0, 4, 2, 11, 12);
            default: return edges(1, 99);
        }
    }

    /** Both ends, what is behind them, the least and the greatest int, and some between. */
    private static long[] edges(long least, long greatest, long... between) {
        Set<Long> all = new LinkedHashSet<>(List.of((long) LEAST, least - 1, least));
        for (long n : between) {
            all.add(n);
        }
        all.addAll(List.of(greatest, greatest + 1, (long) GREATEST));
        return all.stream().mapToLong(n -> n).toArray();
    }
}

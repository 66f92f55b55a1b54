import java.util.function.Supplier;
import java.util.function.ToIntFunction;

/** Counts the answers that are not as due; finish() ends the program with 1 if there was one. */
final class Check {
    /** A call whose one argument is tried at its edges. */
    interface Call {
        int with(ProtocolDesk desk, int number);
    }

    /** A number that is still taken, and what the call answers with it. */
    record Edge(int number, int due) { }

    private String about = "";
    private int checked;
    private int wrong;

    static Edge edge(int number, int due) {
        return new Edge(number, due);
    }

    /** The next checks are about these words, which stand under a promise of the document, or under none (0). */
    void sentence(int promise, String words) {
        about = "";
        isTrue("the document says under " + promise + ": " + words, Document.says(promise, words));
        about = promise + ", \"" + words + "\": ";
    }

    void same(String call, long got, long due) {
        checked++;
        if (got != due) {
            wrong++;
            System.out.println(about + call + " answered " + got + ", due is " + due);
        }
    }

    void isTrue(String what, boolean holds) {
        same(what, holds ? 1 : 0, 1);
    }

    /** The call answers as due, and a desk on which it was called shows what one without it shows. */
    void refused(String call, Supplier<ProtocolDesk> maker, ToIntFunction<ProtocolDesk> refusal, int due) {
        for (View view : View.values()) {
            ProtocolDesk touched = maker.get();
            same(call, refusal.applyAsInt(touched), due);
            String after = view.of(new Face(touched));
            String before = view.of(new Face(maker.get()));
            checked++;
            if (!after.equals(before)) {
                wrong++;
                System.out.println(about + call + " was refused, but changed " + view);
                System.out.println("  " + before);
                System.out.println("  " + after);
            }
        }
    }

    /** Both edges are taken; the numbers behind them and the least and greatest int are refused. */
    void range(String what, Supplier<ProtocolDesk> maker, Call call, Edge least, Edge greatest, int refusal) {
        same(what + " with " + least.number, call.with(maker.get(), least.number), least.due);
        same(what + " with " + greatest.number, call.with(maker.get(), greatest.number), greatest.due);
        int[] outside = {least.number - 1, greatest.number + 1, Integer.MIN_VALUE, Integer.MAX_VALUE};
        for (int number : outside) {
            refused(what + " with " + number, maker, d -> call.with(d, number), refusal);
        }
    }

    void finish() {
        if (wrong != 0) {
            System.out.println(wrong + " of " + checked + " are not as due");
            System.exit(1);
        }
    }
}

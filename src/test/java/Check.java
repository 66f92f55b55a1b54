import java.util.function.Supplier;
import java.util.function.ToIntFunction;

/** Counts the answers that are not as due; finish() ends the program with 1 if there was one. */
final class Check {
    private int checked;
    private int wrong;

    void same(String call, long got, long due) {
        checked++;
        if (got != due) {
            wrong++;
            System.out.println(call + " answered " + got + ", due is " + due);
        }
    }

    void isTrue(String what, boolean holds) {
        same(what, holds ? 1 : 0, 1);
    }

    /** The call answers as due, and a desk on which it was called shows what one without it shows. */
    void refused(String call, Supplier<ProtocolDesk> maker, ToIntFunction<ProtocolDesk> refusal, int due) {
        ProtocolDesk touched = maker.get();
        same(call, refusal.applyAsInt(touched), due);
        String after = Scene.show(touched);
        String before = Scene.show(maker.get());
        checked++;
        if (!after.equals(before)) {
            wrong++;
            System.out.println(call + " was refused, but changed");
            System.out.println("  " + before);
            System.out.println("  " + after);
        }
    }

    void finish() {
        if (wrong != 0) {
            System.out.println(wrong + " of " + checked + " are not as due");
            System.exit(1);
        }
    }
}

import java.util.function.Supplier;
import java.util.function.ToIntFunction;

/** Counts answers that are not as due, and ends a test with exit code 1 if there was one. */
final class Checks {
    private int made = 0;
    private int wrong = 0;

    void due(String what, long want, long got) {
        made++;
        if (got != want) {
            fail(what + " answered " + got + ", due is " + want);
        }
    }

    void holds(String what, boolean itHolds) {
        made++;
        if (!itHolds) {
            fail(what + " does not hold");
        }
    }

    /**
     * The call has this answer and changes nothing: the object looks like one that was made the
     * same way and has not had the call. (Two objects, so that neither comes near 512 calls.)
     */
    void changesNothing(String what, Supplier<SliceBody> maker, long want, ToIntFunction<SliceBody> call) {
        SliceBody body = maker.get();
        due(what, want, call.applyAsInt(body));
        made++;
        String without = Sight.of(maker.get());
        String with = Sight.of(body);
        if (!without.equals(with)) {
            fail(what + " changed something\n  without: " + without + "\n  with:    " + with);
        }
    }

    void end(String name) {
        System.out.println(name + ": " + made + " checks, " + wrong + " wrong");
        if (wrong != 0 || made == 0) {
            System.exit(1);
        }
    }

    private void fail(String text) {
        wrong++;
        System.out.println(text);
    }
}

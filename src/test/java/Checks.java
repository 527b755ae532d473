import java.util.function.Supplier;
import java.util.function.ToIntFunction;

/** Counts answers that are not as due, and ends a test with exit code 1 if there was one. */
final class Checks {
    private int made = 0;
    private int wrong = 0;
    private String sentence = "";

    /** The words of the document that the checks from here on are about. */
    void sentence(String words) {
        sentence = words;
    }

    void due(String what, long want, long got) {
        made++;
        if (got != want) {
            fail(what + " answered " + got + ", due is " + want);
        }
    }

    void holds(String what, boolean itHolds) {
        made++;
        if (!itHolds) {
            fail(what + " does not hold");
        }
    }

    /**
     * The call has this answer and changes nothing: the object looks like one that was made the
     * same way and has not had the call. (Two objects, so that neither comes near 512 calls.)
     */
    void changesNothing(String what, Supplier<SliceBody> maker, long want, ToIntFunction<SliceBody> call) {
        SliceBody body = maker.get();
        due(what, want, call.applyAsInt(body));
        made++;
        String without = Sight.of(maker.get());
        String with = Sight.of(body);
        if (!without.equals(with)) {
            fail(what + " changed something\n  without: " + without + "\n  with:    " + with);
        }
    }

    /** Refused whatever the object's state: a new one, laid, told something since, the least, the greatest. */
    void refused(String what, long want, ToIntFunction<SliceBody> call) {
        changesNothing(what + ", new", SliceBody::new, want, call);
        changesNothing(what + ", laid", Bodies::full, want, call);
        changesNothing(what + ", told since", Bodies::fullUnlaid, want, call);
        refusedOf(what, Bodies.SIZES[0], want, call);
        refusedOf(what, Bodies.SIZES[1], want, call);
    }

    /** Refused in a space of this size. */
    void refusedOf(String what, int[] size, long want, ToIntFunction<SliceBody> call) {
        String where = what + " in " + size[0] + " by " + size[1] + " by " + size[2];
        changesNothing(where, () -> Bodies.laidOut(size), want, call);
    }

    void end(String name) {
        System.out.println(name + ": " + made + " checks, " + wrong + " wrong");
        if (wrong != 0 || made == 0) {
            System.exit(1);
        }
    }

    private void fail(String text) {
        wrong++;
        System.out.println((sentence.isEmpty() ? "" : "'" + sentence + "': ") + text);
    }
}

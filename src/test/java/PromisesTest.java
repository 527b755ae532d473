import java.util.function.Supplier;
import java.util.function.ToIntFunction;

/** Each promise of the document by hand: ordinary inputs, the edges it names, wrong inputs. */
public final class PromisesTest {
    private static final int UNKNOWN = -1, OUTSIDE = -2, STATE = -3, NO = -5, NONE = -6;
    private static final int[] FAR = {Integer.MIN_VALUE, Integer.MIN_VALUE + 1, -1000000, -64, 64, 1000000,
        Integer.MAX_VALUE - 1, Integer.MAX_VALUE};
    private static final Checks checks = new Checks();

    public static void main(String[] args) {
        constants();
        newObject();
        objectsStandAlone();
        space();
        boxPutsIn();
        boxAtTheEdges();
        boxRefused();
        at();
        rib();
        ribs();
        figureOfEachAxis();
        slotsOfEachLength();
        slotsOfSeveralRuns();
        figureRefused();
        aboutParts();
        aboutLoose();
        aboutCrossings();
        aboutSpans();
        aboutRefused();
        caught();
        run();
        cover();
        bestByCover();
        bestOfLikeOnes();
        bestRefused();
        told();
        layInOrder();
        layInRows();
        layEmptyOnes();
        layRefused();
        laid();
        laidIsForgotten();
        least();
        checks.end("PromisesTest");
    }

    private static void due(String what, long want, long got) {
        checks.due(what, want, got);
    }

    private static void refused(String what, int want, ToIntFunction<SliceBody> call) {
        checks.changesNothing(what, PromisesTest::full, want, call);
    }

    private static SliceBody full() {
        return Bodies.full();
    }

    private static SliceBody of(int x, int y, int z) {
        return Bodies.of(x, y, z);
    }

    private static void cube(SliceBody b, int x, int y, int z) {
        Bodies.cube(b, x, y, z);
    }

    // ---- the constants, promise 1

    private static void constants() {
        due("UNKNOWN", UNKNOWN, SliceBody.UNKNOWN);
        due("OUTSIDE", OUTSIDE, SliceBody.OUTSIDE);
        due("STATE", STATE, SliceBody.STATE);
        due("NO", NO, SliceBody.NO);
        due("NONE", NONE, SliceBody.NONE);
    }

    private static void newObject() {
        SliceBody b = new SliceBody();
        int[] want = {4, 4, 4, 0, 0, 0, 0, 0};
        for (int what = 0; what < want.length; what++) {
            due("new: told " + what, want[what], b.told(what));
        }
        for (int i = 0; i < 64; i++) {
            due("new: at", 0, b.at(i / 16, i / 4 % 4, i % 4));
        }
        due("new: at beyond", UNKNOWN, b.at(4, 0, 0));
        due("new: cover", 0, b.cover());
        due("new: caught", 0, b.caught(-1));
        due("new: laid", STATE, b.laid(0, 0));
        due("new: least", STATE, b.least());
    }

    /** What is told to one object is nothing to another, nor to one that is made later. */
    private static void objectsStandAlone() {
        SliceBody first = full();
        SliceBody other = figures(new int[] {4, 3, 2}, new int[] {2, 2, 2});
        due("the other is laid", 2, other.lay(8, 2, 0));
        checks.holds("the first is as it was", Sight.of(first).equals(Sight.of(full())));
        due("the other is told something", 12, other.best(1, 1));
        due("the first is laid still", 1, first.laid(0, 0));
        due("the first is told something", 1, first.rib(0, 1, true));
        due("the other is laid again", 1, other.lay(60, 60, 0));
        due("the first is not", STATE, first.least());
        due("the other has a space of its own", 8, other.space(2, 2, 2));
        due("the first keeps its", 29, first.told(3));
        checks.holds("a new one is new", Sight.of(new SliceBody()).equals(Sight.of(of(4, 4, 4))));
    }

    // ---- promise 2

    private static void space() {
        SliceBody b = full();
        due("space 2 3 5", 30, b.space(2, 3, 5));
        int[] want = {2, 3, 5, 0, 0, 0, 0, 0};
        for (int what = 0; what < want.length; what++) {
            due("after space: told " + what, want[what], b.told(what));
        }
        due("after space: laid", STATE, b.laid(0, 0));
        due("after space: least", STATE, b.least());
        due("space of one", 1, b.space(1, 1, 1));
        due("greatest space", 512, b.space(8, 8, 8));
        due("all of it can be filled", 512, b.box(0, 0, 0, 8, 8, 8, true));
        due("smaller", 64, b.space(4, 4, 4));
        due("greater again", 512, b.space(8, 8, 8));
        due("nothing is left in it", 0, b.told(3));
        for (int bad : new int[] {0, 9, -1, 10}) {
            spaceRefused(bad);
        }
        for (int bad : FAR) {
            spaceRefused(bad);
        }
    }

    private static void spaceRefused(int bad) {
        refused("space x " + bad, OUTSIDE, b -> b.space(bad, 1, 1));
        refused("space y " + bad, OUTSIDE, b -> b.space(8, bad, 8));
        refused("space z " + bad, OUTSIDE, b -> b.space(2, 2, bad));
    }

    // ---- promise 3

    private static void boxPutsIn() {
        SliceBody b = of(5, 4, 6);
        due("box in", 2 * 3 * 4, b.box(1, 0, 2, 2, 3, 4, true));
        for (int i = 0; i < 120; i++) {
            int x = i / 24, y = i / 6 % 4, z = i % 6;
            boolean in = x >= 1 && x < 3 && y < 3 && z >= 2;
            due("cube " + x + " " + y + " " + z, in ? 1 : 0, b.at(x, y, z));
        }
        due("the same again", 0, b.box(1, 0, 2, 2, 3, 4, true));
        due("one more layer", 6, b.box(1, 0, 1, 2, 3, 4, true));
        due("taken out", 4, b.box(0, 0, 0, 2, 2, 3, false));
        due("taken out again", 0, b.box(0, 0, 0, 2, 2, 3, false));
        due("what is left", 26, b.told(3));
        due("all of it taken out", 26, b.box(0, 0, 0, 8, 8, 8, false));
        due("none left", 0, b.told(3));
    }

    private static void boxAtTheEdges() {
        SliceBody b = new SliceBody();
        due("just below", 0, b.box(-8, -8, -8, 8, 8, 8, true));
        due("just one corner", 1, b.box(-7, -7, -7, 8, 8, 8, true));
        due("it is the least", 1, b.at(0, 0, 0));
        due("the other corner", 1, b.box(3, 3, 3, 8, 8, 8, true));
        due("it is the greatest", 1, b.at(3, 3, 3));
        due("just above", 0, b.box(4, 0, 0, 8, 8, 8, true));
        due("far above", 0, b.box(8, 8, 8, 8, 8, 8, true));
        due("below in y alone", 0, b.box(0, -2, 0, 4, 2, 4, true));
        due("below in z alone", 0, b.box(0, 0, -3, 4, 4, 3, true));
        due("half in z", 32 - 1, b.box(0, 0, -6, 8, 8, 8, true));
        due("in all", 33, b.told(3));
    }

    private static void boxRefused() {
        int[] corners = {-9, 9, -10, 16};
        int[] sizes = {0, 9, -1, -8};
        for (int i = 0; i < corners.length + FAR.length; i++) {
            int corner = i < corners.length ? corners[i] : FAR[i - corners.length];
            int size = i < sizes.length ? sizes[i] : FAR[i - sizes.length];
            refused("box x " + corner, OUTSIDE, b -> b.box(corner, 0, 0, 8, 8, 8, false));
            refused("box y " + corner, OUTSIDE, b -> b.box(0, corner, 0, 8, 8, 8, false));
            refused("box z " + corner, OUTSIDE, b -> b.box(0, 0, corner, 8, 8, 8, false));
            refused("box wide " + size, OUTSIDE, b -> b.box(0, 0, 0, size, 8, 8, false));
            refused("box deep " + size, OUTSIDE, b -> b.box(0, 0, 0, 8, size, 8, false));
            refused("box high " + size, OUTSIDE, b -> b.box(0, 0, 0, 8, 8, size, false));
        }
    }

    // ---- promise 4

    private static void at() {
        SliceBody b = of(2, 3, 8);
        cube(b, 1, 2, 7);
        due("at the cube", 1, b.at(1, 2, 7));
        due("beside it in x", 0, b.at(0, 2, 7));
        due("beside it in y", 0, b.at(1, 1, 7));
        due("below it", 0, b.at(1, 2, 6));
        refused("at x 3", UNKNOWN, c -> c.at(3, 0, 0));
        refused("at y 2", UNKNOWN, c -> c.at(0, 2, 0));
        refused("at z 5", UNKNOWN, c -> c.at(0, 0, 5));
        for (int bad : new int[] {-1, 8, Integer.MIN_VALUE, Integer.MAX_VALUE}) {
            refused("at x " + bad, UNKNOWN, c -> c.at(bad, 0, 0));
            refused("at y " + bad, UNKNOWN, c -> c.at(0, bad, 0));
            refused("at z " + bad, UNKNOWN, c -> c.at(0, 0, bad));
        }
        checks.changesNothing("at asks only", PromisesTest::full, 1, c -> c.at(2, 1, 4));
    }

    // ---- promises 5, 6

    private static void rib() {
        SliceBody b = of(8, 3, 2);
        due("chosen", 0, b.rib(0, 7, true));
        due("chosen again", 1, b.rib(0, 7, true));
        due("another", 0, b.rib(0, 2, true));
        due("other axis", 0, b.rib(1, 2, true));
        due("bits of axis 0", 132, b.told(4));
        due("bits of axis 1", 4, b.told(5));
        due("no more", 1, b.rib(0, 7, false));
        due("no more again", 0, b.rib(0, 7, false));
        due("the others stay", 4, b.told(4));
        for (int bad : new int[] {-1, 2, 3, Integer.MIN_VALUE, Integer.MAX_VALUE}) {
            refused("rib of axis " + bad, UNKNOWN, c -> c.rib(bad, 0, true));
        }
        for (int bad : new int[] {-1, 3, 8, 32, 33, Integer.MIN_VALUE, Integer.MAX_VALUE}) {
            refused("rib of axis 0 at " + bad, UNKNOWN, c -> c.rib(0, bad, false));
            refused("rib of axis 1 at " + bad, UNKNOWN, c -> c.rib(1, bad, false));
        }
        refused("rib of axis 1 at 2", UNKNOWN, c -> c.rib(1, 2, true));
    }

    private static void ribs() {
        SliceBody b = of(8, 3, 2);
        due("none were", 0, b.ribs(0, 255));
        due("all were", 255, b.ribs(0, 129));
        due("two were", 129, b.ribs(0, 0));
        due("none of axis 1", 0, b.ribs(1, 7));
        due("axis 1 is told", 7, b.told(5));
        due("axis 0 is told", 0, b.told(4));
        due("all of axis 1 were", 7, b.ribs(1, 5));
        due("one by rib()", 1, b.rib(1, 2, false));
        due("one left", 1, b.ribs(1, 1));
        for (int bad : new int[] {-1, 2, Integer.MIN_VALUE, Integer.MAX_VALUE}) {
            refused("ribs of axis " + bad, OUTSIDE, c -> c.ribs(bad, 0));
        }
        for (int bad : new int[] {-1, 8, 255, 256, Integer.MIN_VALUE, Integer.MAX_VALUE}) {
            refused("ribs of axis 0, bits " + bad, OUTSIDE, c -> c.ribs(0, bad));
            refused("ribs of axis 1, bits " + bad, OUTSIDE, c -> c.ribs(1, bad));
        }
        refused("ribs of axis 1, bits 4", OUTSIDE, c -> c.ribs(1, 4));
    }

    // ---- promise 7

    private static void figureOfEachAxis() {
        SliceBody b = of(3, 4, 2);
        cube(b, 2, 3, 1);
        due("axis 0: u is y", 1, b.figure(0, 2, 3, 1, false));
        due("axis 1: u is x", 1, b.figure(1, 3, 2, 1, false));
        due("axis 0, not there", 0, b.figure(0, 2, 2, 1, false));
        due("axis 1, not there", 0, b.figure(1, 3, 1, 1, false));
        due("axis 0, below", 0, b.figure(0, 2, 3, 0, false));
        due("another rib", 0, b.figure(0, 1, 3, 1, false));
        due("not chosen: the cut is the figure, axis 0", 1, b.figure(0, 2, 3, 1, true));
        due("not chosen: the cut is the figure, axis 1", 1, b.figure(1, 3, 2, 1, true));
        b.rib(1, 3, true);
        due("one chosen is no crossing, axis 0", 1, b.figure(0, 2, 3, 1, true));
        due("one chosen is no crossing, axis 1", 1, b.figure(1, 3, 2, 1, true));
        b.rib(0, 2, true);
        due("of one cube axis 0 loses none", 1, b.figure(0, 2, 3, 1, true));
        due("and axis 1 loses it", 0, b.figure(1, 3, 2, 1, true));
        due("the figure stays, axis 0", 1, b.figure(0, 2, 3, 1, false));
        due("the figure stays, axis 1", 1, b.figure(1, 3, 2, 1, false));
        checks.changesNothing("figure asks only", PromisesTest::full, 1, c -> c.figure(0, 1, 1, 0, true));
    }

    private static void slotsOfEachLength() {
        for (int n = 1; n <= 8; n++) {
            for (int from = 0; from + n <= 8; from++) {
                SliceBody b = of(1, 1, 8);
                b.box(0, 0, from, 1, 1, n, true);
                b.rib(0, 0, true);
                b.rib(1, 0, true);
                int kept = n - n / 2;
                for (int z = 0; z < 8; z++) {
                    boolean lower = z >= from && z < from + kept;
                    boolean upper = z >= from + kept && z < from + n;
                    String what = "run of " + n + " from " + from + " at " + z;
                    due(what + ", axis 0", lower ? 1 : 0, b.figure(0, 0, 0, z, true));
                    due(what + ", axis 1", upper ? 1 : 0, b.figure(1, 0, 0, z, true));
                }
                due("axis 0 keeps", kept, b.about(0, 0, 1));
                due("axis 1 keeps", n / 2, b.about(1, 0, 1));
            }
        }
    }

    private static void slotsOfSeveralRuns() {
        SliceBody b = of(2, 2, 8);
        b.box(1, 0, 0, 1, 1, 2, true);
        b.box(1, 0, 3, 1, 1, 1, true);
        b.box(1, 0, 5, 1, 1, 3, true);
        b.rib(0, 1, true);
        b.rib(1, 0, true);
        int[] axis0 = {1, 0, 0, 1, 0, 1, 1, 0};
        int[] axis1 = {0, 1, 0, 0, 0, 0, 0, 1};
        for (int z = 0; z < 8; z++) {
            due("three runs, axis 0 at " + z, axis0[z], b.figure(0, 1, 0, z, true));
            due("three runs, axis 1 at " + z, axis1[z], b.figure(1, 0, 1, z, true));
        }
    }

    private static void figureRefused() {
        for (boolean cut : new boolean[] {false, true}) {
            for (int bad : new int[] {-1, 2, Integer.MIN_VALUE, Integer.MAX_VALUE}) {
                refused("figure of axis " + bad, UNKNOWN, b -> b.figure(bad, 0, 0, 0, cut));
            }
            for (int bad : new int[] {-1, 3, 8, Integer.MIN_VALUE, Integer.MAX_VALUE}) {
                refused("figure of axis 0 at " + bad, UNKNOWN, b -> b.figure(0, bad, 0, 0, cut));
                refused("figure of axis 1 at " + bad, UNKNOWN, b -> b.figure(1, bad, 0, 0, cut));
                refused("figure of axis 0, u " + bad, UNKNOWN, b -> b.figure(0, 0, bad, 0, cut));
                refused("figure of axis 1, u " + bad, UNKNOWN, b -> b.figure(1, 0, bad, 0, cut));
            }
            for (int bad : new int[] {-1, 5, 8, Integer.MIN_VALUE, Integer.MAX_VALUE}) {
                refused("figure, z " + bad, UNKNOWN, b -> b.figure(0, 0, 0, bad, cut));
            }
            refused("axis 0 has u 1", 1, b -> b.figure(0, 2, 1, 0, cut));
            refused("axis 0 has no u 2", UNKNOWN, b -> b.figure(0, 2, 2, 0, cut));
            refused("axis 1 has no place 2", UNKNOWN, b -> b.figure(1, 2, 0, 0, cut));
            refused("axis 1 has u 2", cut ? 0 : 1, b -> b.figure(1, 1, 2, 0, cut));
        }
    }

    // ---- promise 8

    private static void about(SliceBody b, int axis, int place, int... want) {
        for (int what = 0; what < want.length; what++) {
            due("about(" + axis + ", " + place + ", " + what + ")", want[what], b.about(axis, place, what));
        }
    }

    private static void aboutParts() {
        SliceBody b = of(1, 8, 8);
        about(b, 0, 0, 0, 0, 0, 0, 0, 0, 0, 0, 0);
        cube(b, 0, 0, 7);
        cube(b, 0, 1, 0);
        about(b, 0, 0, 2, 2, 2, 2, 2, 0, 0, 2, 8);
        cube(b, 0, 1, 6);
        due("corner to corner does not hang together", 3, b.about(0, 0, 2));
        cube(b, 0, 1, 7);
        due("side by side does", 2, b.about(0, 0, 2));
        b.box(0, 1, 1, 1, 1, 5, true);
        due("one above the other does", 1, b.about(0, 0, 2));
        b.space(1, 8, 8);
        for (int i = 0; i < 64; i += 2) {
            cube(b, 0, i / 8, (i + i / 8 % 2) % 8);
        }
        about(b, 0, 0, 32, 32, 32, 32, 32, 0, 0, 8, 8);
        due("a chessboard's rib across", 4, b.about(1, 3, 2));
        snake(b);
        about(b, 0, 0, 39, 39, 1, 1, 1, 0, 0, 8, 8);
    }

    /** All even y full, joined by turns at the top and at the bottom. */
    private static void snake(SliceBody b) {
        b.space(1, 8, 8);
        for (int y = 0; y < 8; y += 2) {
            b.box(0, y, 0, 1, 1, 8, true);
        }
        for (int y = 1; y < 8; y += 2) {
            cube(b, 0, y, y % 4 == 1 ? 7 : 0);
        }
        b.box(0, 7, 0, 1, 1, 4, true);
    }

    private static void aboutLoose() {
        SliceBody b = of(5, 2, 3);
        b.box(0, 0, 1, 5, 1, 1, true);
        about(b, 1, 0, 5, 5, 1, 1, 1, 0, 0, 5, 1);
        b.rib(1, 0, true);
        due("chosen without a crossing: loose", 1, b.about(1, 0, 4));
        b.rib(0, 2, true);
        about(b, 1, 0, 5, 4, 1, 2, 2, 1, 1, 5, 1);
        about(b, 0, 2, 1, 1, 1, 1, 0, 1, 1, 1, 1);
        cube(b, 2, 0, 2);
        about(b, 1, 0, 6, 5, 1, 3, 2, 1, 1, 5, 2);
        cube(b, 1, 0, 2);
        about(b, 1, 0, 7, 6, 1, 2, 1, 1, 1, 5, 2);
        b.rib(1, 0, false);
        about(b, 1, 0, 7, 7, 1, 1, 1, 0, 0, 5, 2);
        about(b, 0, 2, 2, 2, 1, 1, 1, 0, 0, 1, 2);
    }

    private static void aboutCrossings() {
        SliceBody b = of(4, 3, 8);
        b.box(0, 1, 0, 1, 1, 8, true);
        b.box(1, 1, 0, 1, 1, 2, true);
        b.box(1, 1, 4, 1, 1, 2, true);
        cube(b, 3, 1, 0);
        cube(b, 3, 1, 2);
        cube(b, 3, 1, 4);
        b.ribs(0, 15);
        about(b, 1, 1, 15, 15, 4, 4, 4, 0, 0, 4, 8);
        b.rib(1, 1, true);
        due("crossings with a run: the empty one is none", 3, b.about(1, 1, 5));
        due("runs in all of them", 6, b.about(1, 1, 6));
        due("crossings of an axis 0 rib", 1, b.about(0, 3, 5));
        due("its runs", 3, b.about(0, 3, 6));
        due("without a run", 0, b.about(0, 2, 5));
        b.rib(0, 3, false);
        due("crossings without it", 2, b.about(1, 1, 5));
        due("runs without it", 3, b.about(1, 1, 6));
        due("of one not chosen", 0, b.about(0, 3, 5));
        due("runs of one not chosen", 0, b.about(0, 3, 6));
    }

    private static void aboutSpans() {
        SliceBody b = of(6, 5, 7);
        due("span of u of none", 0, b.about(0, 2, 7));
        due("span of z of none", 0, b.about(0, 2, 8));
        cube(b, 2, 4, 6);
        due("span of u of one", 1, b.about(0, 2, 7));
        due("span of z of one", 1, b.about(0, 2, 8));
        cube(b, 2, 1, 3);
        due("span of u with a gap", 4, b.about(0, 2, 7));
        due("span of z with a gap", 4, b.about(0, 2, 8));
        cube(b, 5, 4, 0);
        due("span of x", 4, b.about(1, 4, 7));
        due("its span of z", 7, b.about(1, 4, 8));
        b.ribs(0, 63);
        b.ribs(1, 31);
        due("the span is the figure's, not the cut's", 4, b.about(1, 4, 7));
        due("though nothing of the cut is left", 0, b.about(1, 4, 1));
        due("nor a part", 0, b.about(1, 4, 3));
        due("nor a loose one", 0, b.about(1, 4, 4));
    }

    private static void aboutRefused() {
        for (int bad : new int[] {-1, 9, 10, Integer.MIN_VALUE, Integer.MAX_VALUE}) {
            refused("about what " + bad, OUTSIDE, b -> b.about(0, 0, bad));
        }
        for (int bad : new int[] {-1, 2, Integer.MIN_VALUE, Integer.MAX_VALUE}) {
            refused("about axis " + bad, UNKNOWN, b -> b.about(bad, 0, 0));
            refused("UNKNOWN goes first, axis " + bad, UNKNOWN, b -> b.about(bad, 0, 9));
        }
        for (int bad : new int[] {-1, 3, 8, Integer.MIN_VALUE, Integer.MAX_VALUE}) {
            refused("about axis 0 at " + bad, UNKNOWN, b -> b.about(0, bad, 0));
            refused("UNKNOWN goes first, at " + bad, UNKNOWN, b -> b.about(1, bad, -1));
        }
        refused("about axis 1 at 2", UNKNOWN, b -> b.about(1, 2, 0));
        for (int what = 0; what < 9; what++) {
            int each = what;
            int want = full().about(0, 1, what);
            refused("about asks only", want, b -> b.about(0, 1, each));
        }
    }

    // ---- promises 9 to 11

    private static void caught() {
        SliceBody b = of(8, 8, 3);
        b.box(0, 0, 0, 8, 8, 3, true);
        b.box(0, 0, 1, 8, 8, 1, false);
        b.box(5, 2, 0, 1, 1, 1, false);
        due("none chosen", 0, b.caught(-1));
        due("none is the first", NONE, b.caught(0));
        b.ribs(0, 161);
        due("axis 0 alone", 0, b.caught(-1));
        b.ribs(1, 134);
        int[] want = {1, 2, 7, 51, 57, 71, 72, 77};
        due("how many", want.length, b.caught(-1));
        for (int i = 0; i < want.length; i++) {
            due("caught " + i, want[i], b.caught(i));
        }
        for (int none : new int[] {8, 64, -2, -10, Integer.MIN_VALUE, Integer.MAX_VALUE}) {
            due("caught " + none, NONE, b.caught(none));
        }
        due("axis 1 alone", 161, b.ribs(0, 0));
        due("are none", 0, b.caught(-1));
        refused("caught asks only", 1, c -> c.caught(-1));
        refused("caught asks only, the first", 11, c -> c.caught(0));
        refused("caught asks only, none", NONE, c -> c.caught(1));
    }

    private static void run() {
        SliceBody b = of(3, 2, 8);
        due("none", 0, b.run(2, 1, -1));
        due("the first of none", NONE, b.run(2, 1, 0));
        cube(b, 2, 1, 0);
        b.box(2, 1, 2, 1, 1, 2, true);
        b.box(2, 1, 5, 1, 1, 3, true);
        due("three", 3, b.run(2, 1, -1));
        due("the lowest", 1, b.run(2, 1, 0));
        due("the middle", 22, b.run(2, 1, 1));
        due("the highest", 53, b.run(2, 1, 2));
        due("elsewhere", 0, b.run(1, 1, -1));
        for (int none : new int[] {3, 8, -2, Integer.MIN_VALUE, Integer.MAX_VALUE}) {
            due("run " + none, NONE, b.run(2, 1, none));
        }
        b.ribs(0, 7);
        b.ribs(1, 3);
        due("chosen or not", 53, b.run(2, 1, 2));
        b.box(2, 1, 0, 1, 1, 8, true);
        due("one whole", 8, b.run(2, 1, 0));
        due("no more", 1, b.run(2, 1, -1));
        for (int z = 0; z < 8; z += 2) {
            b.box(2, 1, z, 1, 1, 1, false);
        }
        due("four", 4, b.run(2, 1, -1));
        due("the fourth", 71, b.run(2, 1, 3));
        for (int bad : new int[] {-1, 3, 8, Integer.MIN_VALUE, Integer.MAX_VALUE}) {
            refused("run at x " + bad, UNKNOWN, c -> c.run(bad, 0, 0));
            refused("run at y " + bad, UNKNOWN, c -> c.run(0, bad, -1));
            refused("UNKNOWN goes first", UNKNOWN, c -> c.run(0, bad, 9));
        }
        refused("run at y 2", UNKNOWN, c -> c.run(0, 2, -1));
    }

    private static void cover() {
        SliceBody b = of(3, 4, 2);
        b.box(0, 0, 0, 3, 4, 2, true);
        due("none chosen", 0, b.cover());
        b.ribs(0, 5);
        due("two of axis 0", 16, b.cover());
        b.ribs(1, 8);
        due("and one across, each cube once", 18, b.cover());
        b.ribs(0, 0);
        due("one of axis 1", 6, b.cover());
        b.box(1, 3, 0, 1, 1, 1, false);
        due("one cube less", 5, b.cover());
        b.ribs(0, 7);
        due("all", 23, b.cover());
        refused("cover asks only", 29, SliceBody::cover);
    }

    // ---- promise 12

    private static void bestByCover() {
        SliceBody b = of(4, 3, 2);
        b.box(2, 0, 0, 1, 3, 2, true);
        b.box(0, 1, 0, 4, 1, 1, true);
        due("one of axis 0", 6, b.best(1, 0));
        due("it is at 2", 4, b.told(4));
        due("with none across", 0, b.told(5));
        due("one of axis 1", 5, b.best(0, 1));
        due("none of axis 0", 0, b.told(4));
        due("it is at 1", 2, b.told(5));
        due("one of each", 9, b.best(1, 1));
        due("at 2", 4, b.told(4));
        due("and at 1", 2, b.told(5));
        due("none", 0, b.best(0, 0));
        due("no rib of axis 0", 0, b.told(4));
        due("no rib of axis 1", 0, b.told(5));
        due("all", 9, b.best(4, 3));
        due("all of axis 0", 15, b.told(4));
        due("all of axis 1", 7, b.told(5));
        due("cover as answered", 9, b.cover());
        b.space(1, 2, 8);
        cube(b, 0, 0, 3);
        b.box(0, 1, 0, 1, 1, 8, true);
        due("by how many cubes, not how many columns", 8, b.best(0, 1));
        due("it is at 1 again", 2, b.told(5));
    }

    private static void bestOfLikeOnes() {
        SliceBody b = of(2, 1, 3);
        b.box(0, 0, 0, 2, 1, 3, true);
        b.box(0, 0, 1, 1, 1, 1, false);
        b.box(1, 0, 2, 1, 1, 1, false);
        due("all is covered either way", 4, b.best(1, 1));
        due("but the one at 1 is not caught", 2, b.told(4));
        b.space(3, 3, 3);
        due("without cubes", 0, b.best(2, 1));
        due("the least set of axis 0", 3, b.told(4));
        due("the least set of axis 1", 1, b.told(5));
        b.box(0, 0, 0, 3, 3, 3, true);
        due("all alike", 21, b.best(1, 2));
        due("the least of axis 0", 1, b.told(4));
        due("the least two of axis 1", 3, b.told(5));
        b.space(2, 2, 2);
        cube(b, 0, 1, 0);
        cube(b, 1, 0, 0);
        due("two apart", 2, b.best(1, 1));
        due("of axis 0 the lesser", 1, b.told(4));
        due("then of axis 1 what covers", 1, b.told(5));
        b.space(1, 2, 3);
        b.box(0, 0, 0, 1, 2, 3, true);
        b.box(0, 0, 1, 1, 1, 1, false);
        due("all is covered by axis 0", 5, b.best(1, 1));
        due("across where nothing catches", 2, b.told(5));
        b.space(1, 1, 3);
        cube(b, 0, 0, 0);
        cube(b, 0, 0, 2);
        due("the only ones there are", 2, b.best(1, 1));
        due("the only one of axis 0", 1, b.told(4));
        due("the only one of axis 1", 1, b.told(5));
        due("though they catch", 1, b.caught(-1));
        due("at x 0, y 0", 0, b.caught(0));
        b.space(8, 8, 8);
        b.box(0, 0, 0, 8, 8, 8, true);
        due("four and four of the greatest", 384, b.best(4, 4));
        due("the least four of axis 0", 15, b.told(4));
        due("the least four of axis 1", 15, b.told(5));
    }

    private static void bestRefused() {
        for (int bad : new int[] {-1, 4, 9, Integer.MIN_VALUE, Integer.MAX_VALUE}) {
            refused("best a " + bad, OUTSIDE, b -> b.best(bad, 1));
            refused("best b " + bad, OUTSIDE, b -> b.best(1, bad));
        }
        refused("best b 3 of 2", OUTSIDE, b -> b.best(3, 3));
        due("best a 3, b 2", 29, full().best(3, 2));
    }

    // ---- promise 13

    private static void told() {
        int[] want = {3, 2, 5, 29, 6, 3, 29, 0};
        for (int what = 0; what < want.length; what++) {
            int each = what;
            refused("told " + what, want[what], c -> c.told(each));
        }
        for (int bad : new int[] {-1, 8, 9, Integer.MIN_VALUE, Integer.MAX_VALUE}) {
            refused("told " + bad, OUTSIDE, c -> c.told(bad));
        }
        SliceBody row = of(7, 2, 1);
        row.box(0, 0, 0, 7, 1, 1, true);
        row.ribs(1, 1);
        due("one loose part, chosen", 1, row.told(7));
        due("those not chosen do not count", 7, row.told(6));
        row.ribs(0, 8);
        due("the part in two", 2, row.told(7));
        due("each cube in one cut", 7, row.told(6));
        row.ribs(0, 42);
        due("four of one, between the slots", 4, row.told(7));
        row.ribs(1, 2);
        due("three of axis 0, no cube in a crossing", 3, row.told(7));
        due("three cubes of theirs", 3, row.told(6));
    }

    // ---- promises 14 to 16

    private static void dueLaid(SliceBody b, int i, int... want) {
        for (int what = 0; what < want.length; what++) {
            due("laid(" + i + ", " + what + ")", want[what], b.laid(i, what));
        }
    }

    private static SliceBody figures(int[] wide, int[] high) {
        return Bodies.figures(wide, high);
    }

    private static void layInOrder() {
        SliceBody b = figures(new int[] {2, 5, 3, 1, 3}, new int[] {3, 3, 4, 1, 3});
        due("on one board", 1, b.lay(60, 60, 0));
        dueLaid(b, 0, 1, 2, 0, 0, 0, 3, 4);
        dueLaid(b, 1, 1, 1, 0, 3, 0, 5, 3);
        dueLaid(b, 2, 1, 4, 0, 8, 0, 3, 3);
        dueLaid(b, 3, 1, 0, 0, 11, 0, 2, 3);
        dueLaid(b, 4, 1, 3, 0, 13, 0, 1, 1);
        due("that was all", NONE, b.laid(5, 0));
        SliceBody both = of(3, 3, 2);
        both.box(0, 0, 0, 3, 3, 2, true);
        both.ribs(1, 5);
        both.ribs(0, 6);
        due("like ones on one board", 1, both.lay(60, 60, 1));
        dueLaid(both, 0, 0, 1, 0, 0, 0, 4, 3);
        dueLaid(both, 1, 0, 2, 0, 4, 0, 4, 3);
        dueLaid(both, 2, 1, 0, 0, 8, 0, 4, 3);
        dueLaid(both, 3, 1, 2, 0, 12, 0, 4, 3);
    }

    private static void layInRows() {
        SliceBody b = figures(new int[] {4, 4, 3, 3, 2, 2, 1}, new int[] {5, 4, 4, 3, 3, 2, 1});
        due("boards of 8 by 9", 2, b.lay(8, 9, 0));
        dueLaid(b, 0, 1, 0, 0, 0, 0, 4, 5);
        dueLaid(b, 1, 1, 1, 0, 4, 0, 4, 4);
        dueLaid(b, 2, 1, 2, 0, 0, 5, 3, 4);
        dueLaid(b, 3, 1, 3, 0, 3, 5, 3, 3);
        dueLaid(b, 4, 1, 4, 0, 6, 5, 2, 3);
        dueLaid(b, 5, 1, 5, 1, 0, 0, 2, 2);
        dueLaid(b, 6, 1, 6, 1, 2, 0, 1, 1);
        due("the second row no longer fits above the first", 2, b.lay(8, 8, 0));
        dueLaid(b, 2, 1, 2, 1, 0, 0, 3, 4);
        dueLaid(b, 5, 1, 5, 1, 0, 4, 2, 2);
        due("with the kerf", 5, b.lay(9, 7, 2));
        dueLaid(b, 0, 1, 0, 0, 0, 0, 6, 7);
        dueLaid(b, 1, 1, 1, 1, 0, 0, 6, 6);
        dueLaid(b, 2, 1, 2, 2, 0, 0, 5, 6);
        dueLaid(b, 3, 1, 3, 3, 0, 0, 5, 5);
        dueLaid(b, 4, 1, 4, 3, 5, 0, 4, 5);
        dueLaid(b, 5, 1, 5, 4, 0, 0, 4, 4);
        dueLaid(b, 6, 1, 6, 4, 4, 0, 3, 3);
        SliceBody gap = figures(new int[] {5, 4, 1}, new int[] {3, 2, 1});
        due("an earlier row is not gone back to", 1, gap.lay(6, 6, 0));
        dueLaid(gap, 2, 1, 2, 0, 4, 3, 1, 1);
        SliceBody two = figures(new int[] {3, 3, 3}, new int[] {2, 2, 2});
        due("an earlier board is not gone back to", 3, two.lay(5, 3, 0));
        due("just as wide", 2, two.lay(6, 3, 0));
        due("just as high", 1, two.lay(3, 6, 0));
    }

    private static void layEmptyOnes() {
        SliceBody b = of(4, 4, 4);
        b.ribs(0, 15);
        b.ribs(1, 15);
        due("without cubes nothing is laid", 0, b.lay(1, 1, 5));
        due("nothing", NONE, b.laid(0, 0));
        due("nothing at the least", 0, b.least());
        cube(b, 2, 3, 1);
        due("each on the least board", 2, b.lay(1, 1, 0));
        due("no fewer", 2, b.least());
        due("two of one cube", 1, b.lay(2, 1, 0));
        dueLaid(b, 0, 0, 2, 0, 0, 0, 1, 1);
        dueLaid(b, 1, 1, 3, 0, 1, 0, 1, 1);
        due("no third", NONE, b.laid(2, 0));
        b.ribs(0, 0);
        due("one that is not chosen is not laid", 1, b.lay(1, 1, 0));
        dueLaid(b, 0, 1, 3, 0, 0, 0, 1, 1);
        due("no second", NONE, b.laid(1, 0));
    }

    private static void layRefused() {
        for (int bad : new int[] {0, 61, -1, Integer.MIN_VALUE, Integer.MAX_VALUE}) {
            refused("lay w " + bad, OUTSIDE, b -> b.lay(bad, 60, 0));
            refused("lay h " + bad, OUTSIDE, b -> b.lay(60, bad, 0));
            refused("OUTSIDE goes before NO " + bad, OUTSIDE, b -> b.lay(bad, 1, 5));
        }
        for (int bad : new int[] {-1, 6, Integer.MIN_VALUE, Integer.MAX_VALUE}) {
            refused("lay k " + bad, OUTSIDE, b -> b.lay(60, 60, bad));
            refused("OUTSIDE goes before NO, k " + bad, OUTSIDE, b -> b.lay(1, 1, bad));
        }
        refused("not wide enough", NO, b -> b.lay(2, 60, 0));
        refused("not wide enough with the kerf", NO, b -> b.lay(7, 60, 5));
        refused("not high enough", NO, b -> b.lay(60, 4, 0));
        refused("not high enough with the kerf", NO, b -> b.lay(60, 9, 5));
        refused("less than the kerf", NO, b -> b.lay(1, 1, 5));
        due("just wide and high enough", 4, full().lay(3, 5, 0));
        due("just so with the kerf", 4, full().lay(8, 10, 5));
        due("the greatest", 1, full().lay(60, 60, 5));
        SliceBody b = of(2, 2, 4);
        b.box(0, 0, 0, 1, 1, 4, true);
        cube(b, 1, 1, 0);
        b.ribs(0, 2);
        due("a figure that is not chosen may be too high", 1, b.lay(1, 1, 0));
    }

    private static void laid() {
        for (int bad : new int[] {-1, 7, 8, Integer.MIN_VALUE, Integer.MAX_VALUE}) {
            refused("laid what " + bad, OUTSIDE, b -> b.laid(0, bad));
            refused("OUTSIDE goes before NONE " + bad, OUTSIDE, b -> b.laid(99, bad));
            due("STATE goes ahead of OUTSIDE " + bad, STATE, new SliceBody().laid(0, bad));
        }
        for (int none : new int[] {4, 16, 17, -1, Integer.MIN_VALUE, Integer.MAX_VALUE}) {
            refused("laid " + none, NONE, b -> b.laid(none, 6));
            due("STATE goes ahead of NONE " + none, STATE, new SliceBody().laid(none, 0));
        }
        int[] first = {1, 0, 0, 0, 0, 5, 7};
        for (int what = 0; what < 7; what++) {
            int each = what;
            refused("laid 0, " + what, first[what], b -> b.laid(0, each));
        }
        SliceBody b = new SliceBody();
        b.space(8, 8, 8);
        b.box(0, 0, 0, 8, 8, 8, true);
        b.ribs(0, 255);
        b.ribs(1, 255);
        due("all sixteen", 4, b.lay(16, 16, 0));
        dueLaid(b, 15, 1, 7, 3, 8, 8, 8, 8);
        due("a later lay() with fewer", 255, b.ribs(1, 0));
        due("eight", 2, b.lay(16, 16, 0));
        dueLaid(b, 7, 0, 7, 1, 8, 8, 8, 8);
        due("no more than eight", NONE, b.laid(8, 0));
    }

    private static void forgets(String what, ToIntFunction<SliceBody> call) {
        SliceBody b = full();
        due(what + ": laid before", 1, b.laid(0, 0));
        call.applyAsInt(b);
        due(what + ": laid", STATE, b.laid(0, 0));
        due(what + ": least", STATE, b.least());
        due(what + ": a lay() that is refused", NO, b.lay(1, 1, 5));
        due(what + ": does not help", STATE, b.laid(0, 0));
        checks.holds(what + ": laid anew", b.lay(60, 60, 0) >= 0 && b.least() >= 0);
    }

    private static void laidIsForgotten() {
        forgets("space", b -> {
            b.space(3, 3, 3);
            b.box(0, 0, 0, 3, 3, 3, true);
            return b.ribs(0, 1);
        });
        forgets("box", b -> b.box(0, 0, 0, 1, 1, 1, false));
        forgets("box that changes nothing", b -> b.box(8, 8, 8, 1, 1, 1, true));
        forgets("rib", b -> b.rib(0, 0, true));
        forgets("rib that changes nothing", b -> b.rib(0, 0, false));
        forgets("ribs", b -> b.ribs(0, 1));
        forgets("ribs that change nothing", b -> b.ribs(1, 3));
        forgets("best", b -> b.best(1, 1));
        SliceBody b = full();
        due("space alone", 27, b.space(3, 3, 3));
        due("space alone: laid", STATE, b.laid(0, 0));
        due("space alone: least", STATE, b.least());
    }

    private static void least() {
        Supplier<SliceBody> three = () -> figures(new int[] {3, 3, 3}, new int[] {2, 2, 2});
        SliceBody b = three.get();
        due("ahead of lay()", STATE, b.least());
        due("three boards", 3, b.lay(5, 3, 0));
        due("18 by 15", 2, b.least());
        due("one board", 1, b.lay(6, 6, 0));
        due("18 by 36", 1, b.least());
        due("18 by 6", 3, b.lay(3, 2, 0));
        due("just so", 3, b.least());
        due("with the kerf", 3, b.lay(4, 3, 1));
        due("36 by 12", 3, b.least());
        due("one more of height", 3, b.lay(4, 4, 1));
        due("36 by 16", 3, b.least());
        due("refused", NO, b.lay(4, 4, 3));
        due("that of the one that went stays", 3, b.least());
        refused("least asks only", 1, SliceBody::least);
    }
}

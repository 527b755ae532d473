import java.util.function.ToIntFunction;

/** Each boundary that the document names of boards (promises 14 to 16), and of refused calls, on both sides. */
public final class BoardsBoundariesTest {
    private static final int OUTSIDE = SliceBody.OUTSIDE, STATE = SliceBody.STATE, NO = SliceBody.NO;
    private static final int UNKNOWN = SliceBody.UNKNOWN, NONE = SliceBody.NONE;
    private static final int[] FAR = {Integer.MIN_VALUE, Integer.MIN_VALUE + 1, -256, 256, 1 << 16, 1 << 29,
        Integer.MAX_VALUE - 1, Integer.MAX_VALUE};
    private static final Checks checks = new Checks();

    public static void main(String[] args) {
        boardsOneToSixty();
        kerfZeroToFive();
        withoutCubesNoPlace();
        notChosenNoPlace();
        asWideAsTheSpan();
        figuresNotCuts();
        highestFirst();
        thenTheWider();
        thenAxisZero();
        thenTheLesserPlace();
        widthIsJustLeft();
        heightIsJustLeft();
        rowAsHighAsItsFirst();
        neverBackToARow();
        neverBackToABoard();
        sixteenPlaces();
        onePlaceABoard();
        noIfOneNeedsMore();
        laidWhat();
        laidNotSoMany();
        laidStateAhead();
        laidStateSince();
        laidOfTheLatest();
        laidStaysWhenAsked();
        leastCutUp();
        leastOfTheLatest();
        firstThatFits();
        the512thCall();
        checks.end("BoardsBoundariesTest");
    }

    private static void due(String what, long want, long got) {
        checks.due(what, want, got);
    }

    private static void dueLaid(String what, SliceBody b, int i, int... want) {
        for (int k = 0; k < want.length; k++) {
            due(what + ", laid(" + i + ", " + k + ")", want[k], b.laid(i, k));
        }
    }

    /** One cube, in one chosen rib. */
    private static SliceBody oneCube() {
        SliceBody b = Bodies.of(1, 1, 1);
        Bodies.cube(b, 0, 0, 0);
        b.rib(0, 0, true);
        return b;
    }

    // ---- promise 14

    private static void boardsOneToSixty() {
        checks.sentence("BOARDS are w wide, h high (1 to 60 both)");
        for (int n = 1; n <= 60; n++) {
            due("w " + n, 1, oneCube().lay(n, 1, 0));
            due("h " + n, 1, oneCube().lay(1, n, 0));
            due("w and h " + n, 1, oneCube().lay(n, n, 0));
        }
        for (int bad : new int[] {-60, -1, 0, 61, 62, 120}) {
            boardRefused(bad);
        }
        for (int bad : FAR) {
            boardRefused(bad);
        }
    }

    private static void boardRefused(int bad) {
        checks.refused("w " + bad, OUTSIDE, b -> b.lay(bad, 60, 0));
        checks.refused("h " + bad, OUTSIDE, b -> b.lay(60, bad, 0));
        checks.refused("w and h " + bad, OUTSIDE, b -> b.lay(bad, bad, 5));
    }

    private static void kerfZeroToFive() {
        checks.sentence("with a KERF k (0 to 5)");
        for (int k = 0; k <= 5; k++) {
            SliceBody b = oneCube();
            due("k " + k, 1, b.lay(60, 60, k));
            dueLaid("k " + k, b, 0, 0, 0, 0, 0, 0, 1 + k, 1 + k);
        }
        for (int bad : new int[] {-5, -1, 6, 7, 60}) {
            checks.refused("k " + bad, OUTSIDE, b -> b.lay(60, 60, bad));
        }
        for (int bad : FAR) {
            checks.refused("k " + bad, OUTSIDE, b -> b.lay(60, 60, bad));
        }
    }

    private static void withoutCubesNoPlace() {
        checks.sentence("Each chosen RIB whose FIGURE has CUBES needs a place");
        SliceBody b = Bodies.of(8, 8, 8);
        due("none chosen, no cubes", 0, b.lay(1, 1, 5));
        b.ribs(0, 255);
        b.ribs(1, 255);
        due("all chosen, no cubes, less than the kerf", 0, b.lay(1, 1, 5));
        due("none is the first", NONE, b.laid(0, 0));
        due("at the least", 0, b.least());
        Bodies.cube(b, 7, 7, 7);
        due("one cube: two have one, too little for the kerf", NO, b.lay(1, 1, 5));
        due("one cube: two have one", 1, b.lay(6, 12, 5));
        dueLaid("of axis 0", b, 0, 0, 7, 0, 0, 0, 6, 6);
        dueLaid("of axis 1", b, 1, 1, 7, 0, 0, 6, 6, 6);
        due("no third", NONE, b.laid(2, 0));
        b.box(7, 7, 7, 1, 1, 1, false);
        due("no cube again", 0, b.lay(6, 12, 5));
        due("none is the first again", NONE, b.laid(0, 0));
    }

    private static void notChosenNoPlace() {
        checks.sentence("Each chosen RIB");
        SliceBody b = Bodies.filled(3, 3, 3);
        due("none chosen, though none would fit", 0, b.lay(1, 1, 0));
        b.rib(0, 1, true);
        due("one chosen does not fit", NO, b.lay(1, 1, 0));
        due("it alone", 1, b.lay(3, 3, 0));
        dueLaid("it", b, 0, 0, 1, 0, 0, 0, 3, 3);
        due("no other", NONE, b.laid(1, 0));
    }

    private static void asWideAsTheSpan() {
        checks.sentence("as wide as the span of u of its FIGURE (from the least to the greatest, both counted) and k");
        for (int from = 0; from < 8; from++) {
            for (int to = from; to < 8; to++) {
                SliceBody b = Bodies.of(8, 1, 8);
                Bodies.cube(b, from, 0, 0);
                Bodies.cube(b, to, 0, 0);
                b.ribs(1, 1);
                due("u " + from + " to " + to, 1, b.lay(60, 60, 2));
                due("its width", to - from + 3, b.laid(0, 5));
                due("its height", 3, b.laid(0, 6));
                b.space(8, 1, 8);
                Bodies.cube(b, 0, 0, from);
                Bodies.cube(b, 0, 0, to);
                b.ribs(0, 1);
                due("z " + from + " to " + to, 1, b.lay(60, 60, 3));
                due("its width", 4, b.laid(0, 5));
                due("its height", to - from + 4, b.laid(0, 6));
            }
        }
    }

    private static void figuresNotCuts() {
        checks.sentence("the span of u of its FIGURE");
        SliceBody b = Bodies.filled(4, 1, 1);
        b.ribs(0, 9);
        b.ribs(1, 1);
        due("cubes of the cut", 2, b.about(1, 0, 1));
        due("three", 1, b.lay(60, 60, 0));
        dueLaid("as wide as the figure, not the cut", b, 0, 1, 0, 0, 0, 0, 4, 1);
        b.ribs(0, 15);
        due("no cubes of the cut", 0, b.about(1, 0, 1));
        due("five", 1, b.lay(60, 60, 0));
        dueLaid("laid, though nothing is left of it", b, 0, 1, 0, 0, 0, 0, 4, 1);
    }

    private static void highestFirst() {
        checks.sentence("They are laid by height, the highest first");
        SliceBody b = Bodies.figures(new int[] {8, 2, 4, 1}, new int[] {2, 3, 1, 8});
        due("all", 1, b.lay(60, 60, 0));
        dueLaid("the highest, though the narrowest", b, 0, 1, 3, 0, 0, 0, 1, 8);
        dueLaid("3 high", b, 1, 1, 1, 0, 1, 0, 2, 3);
        dueLaid("2 high", b, 2, 1, 0, 0, 3, 0, 8, 2);
        dueLaid("1 high", b, 3, 1, 2, 0, 11, 0, 4, 1);
        SliceBody both = Bodies.of(2, 2, 3);
        Bodies.cube(both, 0, 0, 0);
        both.box(1, 1, 0, 1, 1, 2, true);
        both.ribs(0, 1);
        both.ribs(1, 2);
        due("both axes", 1, both.lay(60, 60, 0));
        dueLaid("the higher, though of axis 1", both, 0, 1, 1, 0, 0, 0, 1, 2);
        dueLaid("the lower", both, 1, 0, 0, 0, 1, 0, 1, 1);
    }

    private static void thenTheWider() {
        checks.sentence("like ones: the wider first");
        SliceBody b = Bodies.figures(new int[] {1, 3, 8, 2}, new int[] {4, 4, 4, 4});
        due("all", 1, b.lay(60, 60, 0));
        int[] places = {2, 1, 3, 0};
        for (int i = 0; i < 4; i++) {
            due("the " + i + "-th", places[i], b.laid(i, 1));
        }
        SliceBody both = Bodies.of(2, 2, 2);
        Bodies.cube(both, 0, 0, 0);
        Bodies.cube(both, 0, 1, 0);
        Bodies.cube(both, 1, 1, 1);
        // Axis 1 at y 1: x 0 and 1, z 0 and 1. Axis 0 at x 1: y 1 alone, z 1 alone.
        both.ribs(0, 2);
        both.ribs(1, 3);
        due("both axes", 1, both.lay(60, 60, 0));
        dueLaid("2 by 2 of axis 1", both, 0, 1, 1, 0, 0, 0, 2, 2);
        dueLaid("1 by 1 of axis 0", both, 1, 0, 1, 0, 2, 0, 1, 1);
        dueLaid("1 by 1 of axis 1", both, 2, 1, 0, 0, 3, 0, 1, 1);
    }

    private static void thenAxisZero() {
        checks.sentence("then axis 0");
        SliceBody b = Bodies.filled(4, 4, 2);
        b.ribs(1, 3);
        b.ribs(0, 12);
        due("all alike", 1, b.lay(60, 60, 0));
        int[] axes = {0, 0, 1, 1};
        int[] places = {2, 3, 0, 1};
        for (int i = 0; i < 4; i++) {
            due("the axis of the " + i + "-th", axes[i], b.laid(i, 0));
            due("the place of the " + i + "-th", places[i], b.laid(i, 1));
        }
        SliceBody wide = Bodies.filled(4, 3, 2);
        wide.ribs(0, 1);
        wide.ribs(1, 4);
        due("as high, one wider", 1, wide.lay(60, 60, 0));
        due("the wider, though of axis 1", 1, wide.laid(0, 0));
        due("axis 0 behind it", 0, wide.laid(1, 0));
    }

    private static void thenTheLesserPlace() {
        checks.sentence("then at the lesser place");
        SliceBody b = Bodies.filled(8, 8, 1);
        // Chosen from the last to the first: when they were chosen is nothing to it.
        for (int place = 7; place >= 0; place--) {
            b.rib(1, place, true);
            b.rib(0, place, true);
        }
        due("sixteen alike", 3, b.lay(60, 1, 0));
        for (int i = 0; i < 16; i++) {
            due("the axis of the " + i + "-th", i / 8, b.laid(i, 0));
            due("the place of the " + i + "-th", i % 8, b.laid(i, 1));
        }
    }

    private static void widthIsJustLeft() {
        checks.sentence("each into the row that is being laid, to the right of those there, if the width is left");
        SliceBody b = Bodies.figures(new int[] {4, 3, 2}, new int[] {2, 2, 2});
        due("just so wide", 1, b.lay(9, 60, 0));
        dueLaid("the third in the first row", b, 2, 1, 2, 0, 7, 0, 2, 2);
        due("one less", 1, b.lay(8, 60, 0));
        dueLaid("the second in the first row", b, 1, 1, 1, 0, 4, 0, 3, 2);
        dueLaid("the third in a new row", b, 2, 1, 2, 0, 0, 2, 2, 2);
        due("just so wide for two", 1, b.lay(7, 60, 0));
        dueLaid("the second still", b, 1, 1, 1, 0, 4, 0, 3, 2);
        due("one less than two", 1, b.lay(6, 60, 0));
        dueLaid("the second in a new row", b, 1, 1, 1, 0, 0, 2, 3, 2);
        dueLaid("the third beside it", b, 2, 1, 2, 0, 3, 2, 2, 2);
        due("with the kerf just so", 1, b.lay(12, 60, 1));
        dueLaid("the third in the first row, kerf", b, 2, 1, 2, 0, 9, 0, 3, 3);
        due("with the kerf one less", 1, b.lay(11, 60, 1));
        dueLaid("the third in a new row, kerf", b, 2, 1, 2, 0, 0, 3, 3, 3);
    }

    private static void heightIsJustLeft() {
        checks.sentence("else a new row is begun above it on that BOARD .. if the height is left; else a new BOARD");
        SliceBody b = Bodies.figures(new int[] {4, 4, 4}, new int[] {5, 3, 2});
        due("just so high for three rows", 1, b.lay(4, 10, 0));
        dueLaid("the third", b, 2, 1, 2, 0, 0, 8, 4, 2);
        due("one less", 2, b.lay(4, 9, 0));
        dueLaid("the second on the first board", b, 1, 1, 1, 0, 0, 5, 4, 3);
        dueLaid("the third on the second board", b, 2, 1, 2, 1, 0, 0, 4, 2);
        due("just so high for two rows", 2, b.lay(4, 8, 0));
        dueLaid("the second still on the first", b, 1, 1, 1, 0, 0, 5, 4, 3);
        due("one less than two rows", 2, b.lay(4, 7, 0));
        dueLaid("the second on the second board", b, 1, 1, 1, 1, 0, 0, 4, 3);
        dueLaid("the third above it", b, 2, 1, 2, 1, 0, 3, 4, 2);
        due("just so high for each", 2, b.lay(4, 5, 0));
        dueLaid("the third above the second", b, 2, 1, 2, 1, 0, 3, 4, 2);
        due("less than one", NO, b.lay(4, 4, 0));
        due("with the kerf just so", 1, b.lay(5, 13, 1));
        due("with the kerf one less", 2, b.lay(5, 12, 1));
    }

    private static void rowAsHighAsItsFirst() {
        checks.sentence("a new row .. as high as the first one in it");
        SliceBody b = Bodies.figures(new int[] {3, 3, 3}, new int[] {5, 1, 1});
        due("two beside each other", 1, b.lay(6, 6, 0));
        dueLaid("the low one beside the high one", b, 1, 1, 1, 0, 3, 0, 3, 1);
        dueLaid("above the high one", b, 2, 1, 2, 0, 0, 5, 3, 1);
        due("no height is left above the high one", 2, b.lay(6, 5, 0));
        dueLaid("so a new board", b, 2, 1, 2, 1, 0, 0, 3, 1);
        SliceBody three = Bodies.figures(new int[] {6, 3, 3, 3}, new int[] {4, 3, 1, 1});
        due("three rows", 1, three.lay(6, 8, 0));
        dueLaid("above the first of the second row", three, 3, 1, 3, 0, 0, 7, 3, 1);
        due("not three rows", 2, three.lay(6, 7, 0));
        dueLaid("on the second board", three, 3, 1, 3, 1, 0, 0, 3, 1);
    }

    private static void neverBackToARow() {
        checks.sentence("each into the row that is being laid");
        SliceBody b = Bodies.figures(new int[] {5, 6, 1, 1}, new int[] {4, 3, 2, 1});
        due("two rows, and one more", 1, b.lay(6, 60, 0));
        dueLaid("the second row is full", b, 1, 1, 1, 0, 0, 4, 6, 3);
        dueLaid("a third row, though the first has room", b, 2, 1, 2, 0, 0, 7, 1, 2);
        dueLaid("beside it", b, 3, 1, 3, 0, 1, 7, 1, 1);
    }

    private static void neverBackToABoard() {
        checks.sentence("else a new BOARD");
        SliceBody b = Bodies.figures(new int[] {4, 6, 2}, new int[] {5, 4, 2});
        due("three boards, though the first has room", 3, b.lay(6, 5, 0));
        dueLaid("the second", b, 1, 1, 1, 1, 0, 0, 6, 4);
        dueLaid("the third", b, 2, 1, 2, 2, 0, 0, 2, 2);
        due("two, where the second board has the height", 2, b.lay(6, 6, 0));
        dueLaid("the third above the second", b, 2, 1, 2, 1, 0, 4, 2, 2);
    }

    private static void sixteenPlaces() {
        checks.sentence("All are laid onto BOARDS: how many of these");
        SliceBody b = Bodies.filled(8, 8, 8);
        b.ribs(0, 255);
        b.ribs(1, 255);
        due("sixteen, four in a row, four rows", 1, b.lay(32, 32, 0));
        dueLaid("the last of all", b, 15, 1, 7, 0, 24, 24, 8, 8);
        due("no seventeenth", NONE, b.laid(16, 0));
        due("one less high", 2, b.lay(32, 31, 0));
        dueLaid("the last on the second", b, 15, 1, 7, 1, 24, 0, 8, 8);
        due("one less wide", 2, b.lay(31, 32, 0));
        due("with the greatest kerf on the greatest boards", 1, b.lay(60, 60, 5));
        dueLaid("the last with a kerf", b, 15, 1, 7, 0, 39, 39, 13, 13);
    }

    private static void onePlaceABoard() {
        checks.sentence("All are laid onto BOARDS: how many of these; one each");
        SliceBody b = Bodies.filled(8, 8, 8);
        b.ribs(0, 255);
        b.ribs(1, 255);
        due("sixteen boards", 16, b.lay(8, 8, 0));
        for (int i = 0; i < 16; i++) {
            dueLaid("each", b, i, i / 8, i % 8, i, 0, 0, 8, 8);
        }
        due("sixteen boards at the least", 16, b.least());
        due("sixteen boards with too much room", 16, b.lay(15, 15, 0));
        due("fewer would have the room", 5, b.least());
    }

    private static void noIfOneNeedsMore() {
        checks.sentence("NO: one needs more than w or h");
        int[] width = {2, 5, 3};
        int[] height = {6, 2, 3};
        for (int k = 0; k <= 5; k++) {
            int kerf = k;
            SliceBody b = Bodies.figures(width, height);
            checks.holds("just enough, k " + k, b.lay(5 + k, 6 + k, k) > 0);
            due("one not wide enough, k " + k, NO, b.lay(4 + k, 6 + k, k));
            due("one not high enough, k " + k, NO, b.lay(5 + k, 5 + k, k));
            due("neither, k " + k, NO, b.lay(4 + k, 5 + k, k));
            due("far too small, k " + k, NO, b.lay(1, 1, k));
            due("wide alone, k " + k, NO, b.lay(60, 1, k));
            due("high alone, k " + k, NO, b.lay(1, 60, k));
            checks.changesNothing("not wide enough, k " + k, Bodies::full, NO, c -> c.lay(2 + kerf, 60, kerf));
            checks.changesNothing("not high enough, k " + k, Bodies::full, NO, c -> c.lay(60, 4 + kerf, kerf));
            checks.changesNothing("nothing laid yet, k " + k, Bodies::fullUnlaid, NO, c -> c.lay(1, 1, kerf));
        }
        SliceBody last = Bodies.of(1, 8, 8);
        last.box(0, 0, 0, 1, 7, 1, true);
        last.box(0, 7, 0, 1, 1, 2, true);
        last.ribs(1, 255);
        due("the last one alone is too high", NO, last.lay(60, 1, 0));
        last.rib(1, 7, false);
        due("without it", 1, last.lay(60, 1, 0));
    }

    // ---- promise 15

    private static void laidWhat() {
        checks.sentence("OUTSIDE: what");
        int[] want = {1, 0, 0, 0, 0, 5, 7};
        for (int what = 0; what < 7; what++) {
            int each = what;
            checks.changesNothing("what " + what, Bodies::full, want[what], b -> b.laid(0, each));
        }
        for (int bad : new int[] {-7, -1, 7, 8, 14}) {
            laidWhatRefused(bad);
        }
        for (int bad : FAR) {
            laidWhatRefused(bad);
        }
    }

    private static void laidWhatRefused(int bad) {
        checks.changesNothing("what " + bad, Bodies::full, OUTSIDE, b -> b.laid(0, bad));
        checks.changesNothing("what " + bad + " of the last", Bodies::full, OUTSIDE, b -> b.laid(3, bad));
        checks.changesNothing("what " + bad + " of none", Bodies::full, OUTSIDE, b -> b.laid(4, bad));
        checks.changesNothing("what " + bad + " of less", Bodies::full, OUTSIDE, b -> b.laid(-1, bad));
        SliceBody none = new SliceBody();
        none.lay(1, 1, 0);
        due("what " + bad + " where none is laid", OUTSIDE, none.laid(0, bad));
    }

    private static void laidNotSoMany() {
        checks.sentence("NONE: not so many");
        for (int count = 0; count <= 8; count++) {
            SliceBody b = Bodies.filled(8, 1, 1);
            b.ribs(0, (1 << count) - 1);
            due("boards of " + count, count == 0 ? 0 : 1, b.lay(60, 60, 0));
            for (int i = 0; i < count; i++) {
                due("the " + i + "-th of " + count, i, b.laid(i, 1));
            }
            for (int what = 0; what < 7; what++) {
                due("one more than " + count, NONE, b.laid(count, what));
            }
            due("many more than " + count, NONE, b.laid(16, 0));
        }
        for (int none : new int[] {4, 5, 15, 16, 17, -1, -2}) {
            checks.changesNothing("the " + none + "-th", Bodies::full, NONE, b -> b.laid(none, 0));
        }
        for (int none : FAR) {
            checks.changesNothing("the " + none + "-th", Bodies::full, NONE, b -> b.laid(none, 6));
        }
    }

    private static void laidStateAhead() {
        checks.sentence("STATE (ahead): there was none");
        int[] whats = {0, 6, -1, 7, Integer.MIN_VALUE, Integer.MAX_VALUE};
        int[] ones = {0, 3, 4, 16, -1, Integer.MIN_VALUE, Integer.MAX_VALUE};
        for (int what : whats) {
            for (int i : ones) {
                checks.changesNothing("new", SliceBody::new, STATE, b -> b.laid(i, what));
                checks.changesNothing("told since", Bodies::fullUnlaid, STATE, b -> b.laid(i, what));
            }
        }
        checks.changesNothing("least, new", SliceBody::new, STATE, SliceBody::least);
        checks.changesNothing("least, told since", Bodies::fullUnlaid, STATE, SliceBody::least);
    }

    private static void laidStateSince() {
        checks.sentence("since something was told by space(), box(), rib(), ribs(), best() that went");
        goes("space", b -> b.space(3, 2, 5));
        goes("space of another size", b -> b.space(1, 1, 1));
        goes("box in", b -> b.box(1, 1, 2, 1, 1, 1, true));
        goes("box out", b -> b.box(0, 0, 0, 1, 1, 1, false));
        goes("box that is there already", b -> b.box(0, 0, 0, 1, 1, 1, true));
        goes("box off the space", b -> b.box(-8, -8, -8, 8, 8, 8, true));
        goes("rib chosen", b -> b.rib(0, 0, true));
        goes("rib no more", b -> b.rib(1, 1, false));
        goes("rib that is chosen already", b -> b.rib(0, 1, true));
        goes("rib that is not chosen already", b -> b.rib(0, 0, false));
        goes("ribs of axis 0", b -> b.ribs(0, 1));
        goes("ribs of axis 1", b -> b.ribs(1, 0));
        goes("ribs as they are, axis 0", b -> b.ribs(0, 6));
        goes("ribs as they are, axis 1", b -> b.ribs(1, 3));
        goes("best", b -> b.best(1, 1));
        goes("best of none", b -> b.best(0, 0));
    }

    private static void goes(String what, ToIntFunction<SliceBody> call) {
        SliceBody b = Bodies.full();
        due(what + ": laid ahead of it", 1, b.laid(0, 0));
        due(what + ": least ahead of it", 1, b.least());
        checks.holds(what + " goes", call.applyAsInt(b) >= 0);
        due(what + ": laid", STATE, b.laid(0, 0));
        due(what + ": laid, what 7", STATE, b.laid(0, 7));
        due(what + ": laid, the 99th", STATE, b.laid(99, 0));
        due(what + ": least", STATE, b.least());
        due(what + ": lay refused", OUTSIDE, b.lay(61, 1, 0));
        due(what + ": least still", STATE, b.least());
        checks.holds(what + ": lay", b.lay(60, 60, 0) >= 0);
        checks.holds(what + ": least after lay", b.least() >= 0);
    }

    private static void laidOfTheLatest() {
        checks.sentence("Of the latest lay() that went");
        SliceBody b = Bodies.figures(new int[] {4, 3, 2}, new int[] {2, 2, 2});
        due("the first", 1, b.lay(9, 2, 0));
        dueLaid("of the first", b, 2, 1, 2, 0, 7, 0, 2, 2);
        due("a later one", 3, b.lay(5, 3, 1));
        dueLaid("of the later", b, 2, 1, 2, 2, 0, 0, 3, 3);
        due("one that is refused: NO", NO, b.lay(3, 3, 0));
        dueLaid("still of the later", b, 2, 1, 2, 2, 0, 0, 3, 3);
        due("one that is refused: OUTSIDE", OUTSIDE, b.lay(9, 2, 6));
        dueLaid("still so", b, 2, 1, 2, 2, 0, 0, 3, 3);
        due("least of the later", 3, b.least());
    }

    private static void laidStaysWhenAsked() {
        checks.sentence("STATE .. space(), box(), rib(), ribs(), best(): no other call");
        checks.changesNothing("at", Bodies::full, 1, b -> b.at(0, 0, 0));
        checks.changesNothing("figure", Bodies::full, 1, b -> b.figure(0, 0, 0, 0, false));
        checks.changesNothing("cut", Bodies::full, 1, b -> b.figure(0, 0, 0, 0, true));
        checks.changesNothing("about", Bodies::full, 10, b -> b.about(0, 0, 0));
        checks.changesNothing("caught", Bodies::full, 1, b -> b.caught(-1));
        checks.changesNothing("run", Bodies::full, 2, b -> b.run(1, 1, -1));
        checks.changesNothing("cover", Bodies::full, 29, SliceBody::cover);
        checks.changesNothing("told", Bodies::full, 29, b -> b.told(3));
        checks.changesNothing("laid", Bodies::full, 0, b -> b.laid(3, 4));
        checks.changesNothing("least", Bodies::full, 1, SliceBody::least);
    }

    // ---- promise 16

    private static void leastCutUp() {
        checks.sentence("LEAST: all places' areas together by w h, cut up");
        SliceBody none = new SliceBody();
        due("none", 0, none.lay(60, 60, 5));
        due("of none", 0, none.least());
        // Boards that are 4 high, a little less and a little more than what is laid.
        for (int w = 4; w <= 60; w++) {
            SliceBody b = Bodies.figures(new int[] {4, 4, 4, 3}, new int[] {4, 4, 4, 3});
            checks.holds("goes", b.lay(w, 4, 0) > 0);
            int fewest = 0;
            for (int room = 0; room < 3 * 16 + 9; room += w * 4) {
                fewest++;
            }
            due("57 by " + w * 4, fewest, b.least());
        }
        SliceBody b = Bodies.figures(new int[] {4, 4}, new int[] {3, 3});
        due("24 by 24", 1, b.lay(8, 3, 0));
        due("just so", 1, b.least());
        due("24 by 21", 2, b.lay(7, 3, 0));
        due("one more", 2, b.least());
        due("24 by 12", 2, b.lay(4, 3, 0));
        due("just two", 2, b.least());
        due("24 by 60 60", 1, b.lay(60, 60, 0));
        due("far less than one", 1, b.least());
        SliceBody ones = Bodies.filled(5, 1, 1);
        ones.ribs(0, 31);
        due("five on the least boards", 5, ones.lay(1, 1, 0));
        due("5 by 1", 5, ones.least());
        due("five on boards of two", 3, ones.lay(2, 1, 0));
        due("5 by 2", 3, ones.least());
        due("with the kerf: 40 by 40", 1, b.lay(10, 4, 1));
        due("just so with it", 1, b.least());
        due("with the kerf: 40 by 36", 2, b.lay(9, 4, 1));
        due("more with it", 2, b.least());
    }

    private static void leastOfTheLatest() {
        checks.sentence("LEAST of the latest lay(). STATE, likewise");
        SliceBody b = Bodies.figures(new int[] {4, 4}, new int[] {3, 3});
        due("ahead of any", STATE, b.least());
        due("refused", NO, b.lay(3, 3, 0));
        due("ahead of one that went", STATE, b.least());
        due("goes", 2, b.lay(4, 3, 0));
        due("of it", 2, b.least());
        due("a later", 1, b.lay(60, 60, 0));
        due("of the later", 1, b.least());
        due("refused again", NO, b.lay(4, 2, 0));
        due("of the one that went", 1, b.least());
        due("all taken out", 24, b.box(0, 0, 0, 8, 8, 8, false));
        due("told since", STATE, b.least());
        due("none to lay", 0, b.lay(4, 3, 0));
        due("of none", 0, b.least());
    }

    // ---- terms

    private static void firstThatFits() {
        checks.sentence("the first of these that fits: UNKNOWN, OUTSIDE, STATE, NO");
        checks.refused("about: no such rib, nor such a number", UNKNOWN, b -> b.about(2, 9, 9));
        checks.refused("about: no such number", OUTSIDE, b -> b.about(0, 0, 9));
        checks.changesNothing("lay: no such board, nor would they fit", Bodies::full, OUTSIDE, b -> b.lay(1, 0, 0));
        checks.changesNothing("lay: no such kerf, nor would they fit", Bodies::full, OUTSIDE, b -> b.lay(1, 1, 6));
        checks.changesNothing("lay: they do not fit", Bodies::full, NO, b -> b.lay(1, 1, 5));
        checks.changesNothing("laid: STATE is ahead", SliceBody::new, STATE, b -> b.laid(-1, 7));
        checks.changesNothing("laid: OUTSIDE, then NONE", Bodies::full, OUTSIDE, b -> b.laid(-1, 7));
        checks.changesNothing("laid: NONE", Bodies::full, NONE, b -> b.laid(-1, 6));
        checks.refused("run: no such place, nor such a run", UNKNOWN, b -> b.run(8, 0, 9));
        checks.refused("box: two numbers are not as told", OUTSIDE, b -> b.box(9, 0, 0, 0, 1, 1, true));
    }

    private static void the512thCall() {
        checks.sentence("An object is used for at most 512 calls after it has been made");
        SliceBody b = new SliceBody();
        b.space(8, 8, 8);
        b.ribs(0, 255);
        b.ribs(1, 255);
        for (int i = 3; i < 510; i++) {
            boolean in = i % 2 == 1;
            due("call " + i, 512, b.box(0, 0, 0, 8, 8, 8, in));
        }
        due("the 511th", 16, b.lay(8, 8, 0));
        due("the 512th", 7, b.laid(15, 1));
    }
}

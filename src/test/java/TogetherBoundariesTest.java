/** Each boundary that the document names of what goes together (promises 9 to 13), on both sides. */
public final class TogetherBoundariesTest {
    private static final int UNKNOWN = SliceBody.UNKNOWN, OUTSIDE = SliceBody.OUTSIDE, STATE = SliceBody.STATE;
    private static final int NONE = SliceBody.NONE;
    private static final int[] FAR = {Integer.MIN_VALUE, Integer.MIN_VALUE + 1, -256, 256, 1 << 29,
        Integer.MAX_VALUE - 1, Integer.MAX_VALUE};
    private static final Checks checks = new Checks();

    public static void main(String[] args) {
        caughtMoreThanOneRun();
        caughtOnlyInCrossings();
        caughtHowManyAndWhich();
        caughtInEverySpace();
        runsOfEveryColumn();
        runsChosenOrNot();
        runSides();
        coverEachOnce();
        coverOfAllAndNone();
        bestJustSoMany();
        bestOfThoseThereAre();
        bestNoneAndAll();
        bestGreatestCover();
        bestCoverAheadOfCaught();
        bestCaughtAheadOfSets();
        bestLeastSetOfAxisZero();
        bestAxisZeroAheadOfAxisOne();
        bestLeastSetOfAxisOne();
        bestIsChosen();
        bestSides();
        toldAll();
        toldOfChosenAlone();
        toldSides();
        checks.end("TogetherBoundariesTest");
    }

    private static void due(String what, long want, long got) {
        checks.due(what, want, got);
    }

    private static int runCount(int bits) {
        int count = 0;
        for (int z = 0; z < 8; z++) {
            boolean below = z > 0 && (bits >> z - 1 & 1) == 1;
            count += (bits >> z & 1) == 1 && !below ? 1 : 0;
        }
        return count;
    }

    // ---- promise 9

    private static void caughtMoreThanOneRun() {
        checks.sentence("CAUGHT is a CROSSING with more than one RUN");
        for (int bits = 0; bits < 256; bits++) {
            SliceBody b = Bodies.column(bits, true);
            boolean is = runCount(bits) > 1;
            due("column " + bits, is ? 1 : 0, b.caught(-1));
            due("column " + bits + ", the first", is ? 0 : NONE, b.caught(0));
            due("column " + bits + ", the second", NONE, b.caught(1));
        }
    }

    private static void caughtOnlyInCrossings() {
        checks.sentence("CAUGHT is a CROSSING");
        for (int chosen = 0; chosen < 4; chosen++) {
            SliceBody b = Bodies.column(5, false);
            b.ribs(0, chosen & 1);
            b.ribs(1, chosen >> 1);
            due("chosen " + chosen, chosen == 3 ? 1 : 0, b.caught(-1));
            due("chosen " + chosen + ", the first", chosen == 3 ? 0 : NONE, b.caught(0));
        }
    }

    private static void caughtHowManyAndWhich() {
        checks.sentence("how many (i = -1), the i-th by x, then y: 10 x and y; NONE");
        SliceBody b = Bodies.filled(8, 8, 3);
        b.box(0, 0, 1, 8, 8, 1, false);
        due("none is chosen", 0, b.caught(-1));
        b.ribs(0, 255);
        b.ribs(1, 255);
        due("all", 64, b.caught(-1));
        for (int i = 0; i < 64; i++) {
            due("the " + i + "-th", 10 * (i / 8) + i % 8, b.caught(i));
        }
        for (int none : new int[] {64, 65, 77, -2, -3}) {
            due("the " + none + "-th", NONE, b.caught(none));
        }
        for (int none : FAR) {
            due("the " + none + "-th", NONE, b.caught(none));
        }
        b.ribs(0, 136);
        b.ribs(1, 65);
        int[] want = {30, 36, 70, 76};
        due("four", 4, b.caught(-1));
        for (int i = 0; i < 4; i++) {
            due("of four the " + i + "-th", want[i], b.caught(i));
        }
        due("no fifth", NONE, b.caught(4));
        due("a new one has none", 0, new SliceBody().caught(-1));
        checks.refused("none is the 64th", NONE, c -> c.caught(64));
        checks.refused("none is the -2nd", NONE, c -> c.caught(-2));
        checks.changesNothing("asks only", Bodies::full, 1, c -> c.caught(-1));
        checks.changesNothing("asks only which", Bodies::full, 11, c -> c.caught(0));
    }

    private static void caughtInEverySpace() {
        checks.sentence("the i-th by x, then y: the first and the last of a space");
        for (int[] size : Bodies.SIZES) {
            SliceBody b = Bodies.filled(size[0], size[1], size[2]);
            b.box(0, 0, 1, 8, 8, 1, false);
            b.ribs(0, (1 << size[0]) - 1);
            b.ribs(1, (1 << size[1]) - 1);
            // Where there is no z 2, there is but one run.
            int all = size[2] < 3 ? 0 : size[0] * size[1];
            due("how many", all, b.caught(-1));
            due("the first", all == 0 ? NONE : 0, b.caught(0));
            due("the last", all == 0 ? NONE : 10 * size[0] + size[1] - 11, b.caught(all == 0 ? 1 : all - 1));
            due("no more", NONE, b.caught(all));
        }
    }

    // ---- promise 10

    private static void runsOfEveryColumn() {
        checks.sentence("how many (i = -1), the i-th from below: 10 times where it begins, and how long");
        for (int bits = 0; bits < 256; bits++) {
            SliceBody b = Bodies.column(bits, false);
            due("column " + bits, runCount(bits), b.run(0, 0, -1));
            int i = 0;
            int z = 0;
            while (z < 8) {
                int length = Integer.numberOfTrailingZeros(~(bits >> z));
                if (length > 0) {
                    due("column " + bits + ", the " + i + "-th", 10 * z + length, b.run(0, 0, i));
                    i++;
                }
                z += length + 1;
            }
            due("column " + bits + ", no more", NONE, b.run(0, 0, i));
            due("column " + bits + ", the -2nd", NONE, b.run(0, 0, -2));
        }
        SliceBody low = Bodies.filled(1, 1, 3);
        due("up to the top of a low space", 3, low.run(0, 0, 0));
        for (int none : FAR) {
            due("the " + none + "-th", NONE, low.run(0, 0, none));
        }
    }

    private static void runsChosenOrNot() {
        checks.sentence("RUNS at an x and y, chosen or not");
        for (int chosen = 0; chosen < 4; chosen++) {
            SliceBody b = Bodies.column(0b11011011, false);
            b.ribs(0, chosen & 1);
            b.ribs(1, chosen >> 1);
            due("how many, chosen " + chosen, 3, b.run(0, 0, -1));
            due("the last, chosen " + chosen, 62, b.run(0, 0, 2));
            due("no more, chosen " + chosen, NONE, b.run(0, 0, 3));
        }
    }

    private static void runSides() {
        checks.sentence("run: UNKNOWN; NONE");
        for (int[] size : Bodies.SIZES) {
            SliceBody b = Bodies.filled(size[0], size[1], size[2]);
            due("the last", size[2], b.run(size[0] - 1, size[1] - 1, 0));
            for (int i = -2; i < 2; i++) {
                int each = i;
                checks.refusedOf("x beyond, " + i, size, UNKNOWN, c -> c.run(size[0], 0, each));
                checks.refusedOf("y beyond, " + i, size, UNKNOWN, c -> c.run(0, size[1], each));
                checks.refusedOf("x below, " + i, size, UNKNOWN, c -> c.run(-1, 0, each));
                checks.refusedOf("y below, " + i, size, UNKNOWN, c -> c.run(0, -1, each));
            }
            checks.refusedOf("no second", size, NONE, c -> c.run(0, 0, 1));
            checks.refusedOf("asks only", size, 1, c -> c.run(0, 0, -1));
        }
        for (int bad : FAR) {
            checks.refused("x " + bad, UNKNOWN, b -> b.run(bad, 0, -1));
            checks.refused("y " + bad, UNKNOWN, b -> b.run(0, bad, -1));
        }
    }

    // ---- promise 11

    private static void coverEachOnce() {
        checks.sentence("COVER: how many CUBES of the SOLID lie in chosen RIBS");
        SliceBody b = Bodies.filled(4, 3, 2);
        for (int atX = 0; atX < 16; atX++) {
            for (int atY = 0; atY < 8; atY++) {
                b.ribs(0, atX);
                b.ribs(1, atY);
                int left = (4 - Integer.bitCount(atX)) * (3 - Integer.bitCount(atY));
                due("of " + atX + " and " + atY, (12 - left) * 2, b.cover());
            }
        }
        checks.changesNothing("asks only", Bodies::full, 29, SliceBody::cover);
    }

    private static void coverOfAllAndNone() {
        checks.sentence("COVER, empty and full");
        for (int[] size : Bodies.SIZES) {
            SliceBody b = Bodies.of(size[0], size[1], size[2]);
            b.ribs(0, (1 << size[0]) - 1);
            due("no cubes", 0, b.cover());
            b.box(0, 0, 0, 8, 8, 8, true);
            due("all, by axis 0 alone", size[0] * size[1] * size[2], b.cover());
            b.ribs(1, (1 << size[1]) - 1);
            due("all, by both", size[0] * size[1] * size[2], b.cover());
            b.ribs(0, 0);
            due("all, by axis 1 alone", size[0] * size[1] * size[2], b.cover());
            b.ribs(1, 0);
            due("none chosen", 0, b.cover());
        }
    }

    // ---- promise 12

    private static void dueBest(String what, SliceBody b, int a, int c, int cover, int atX, int atY) {
        due(what + ": cover", cover, b.best(a, c));
        due(what + ": axis 0", atX, b.told(4));
        due(what + ": axis 1", atY, b.told(5));
        due(what + ": cover is so", cover, b.cover());
    }

    private static void bestJustSoMany() {
        checks.sentence("each a set of just so many");
        for (int[] size : Bodies.SIZES) {
            for (int a = 0; a <= size[0]; a++) {
                SliceBody b = Bodies.filled(size[0], size[1], size[2]);
                SliceBody empty = Bodies.of(size[0], size[1], size[2]);
                for (int c = 0; c <= size[1]; c++) {
                    int covered = size[0] * size[1] - (size[0] - a) * (size[1] - c);
                    dueBest("full, " + a + " and " + c, b, a, c, covered * size[2], (1 << a) - 1, (1 << c) - 1);
                    dueBest("empty, " + a + " and " + c, empty, a, c, 0, (1 << a) - 1, (1 << c) - 1);
                }
            }
        }
    }

    /** All crossings catch, so that a rib beyond the space, were there one, would be the better one. */
    private static void bestOfThoseThereAre() {
        checks.sentence("a RIBS of axis 0 and b of axis 1: of those at 0 to X - 1, 0 to Y - 1");
        for (int side = 1; side <= 8; side++) {
            SliceBody b = Bodies.filled(side, side, 3);
            b.box(0, 0, 1, 8, 8, 1, false);
            int all = (1 << side) - 1;
            dueBest("one of axis 0, all of axis 1, of " + side, b, 1, side, 2 * side * side, 1, all);
            due("all of its crossings catch", side, b.caught(-1));
            dueBest("all of axis 0, one of axis 1, of " + side, b, side, 1, 2 * side * side, all, 1);
            due("all of these catch too", side, b.caught(-1));
        }
    }

    private static void bestNoneAndAll() {
        checks.sentence("a .. 0 to X, b .. 0 to Y: none and all");
        SliceBody b = Bodies.full();
        dueBest("none", b, 0, 0, 0, 0, 0);
        dueBest("all of axis 0", b, 3, 0, 29, 7, 0);
        dueBest("all of axis 1", b, 0, 2, 29, 0, 3);
        dueBest("all", b, 3, 2, 29, 7, 3);
        dueBest("none again", b, 0, 0, 0, 0, 0);
    }

    private static void bestGreatestCover() {
        checks.sentence("the greatest COVER");
        SliceBody x = Bodies.of(8, 1, 8);
        SliceBody y = Bodies.of(1, 8, 8);
        int[] heights = {3, 8, 1, 6, 2, 7, 4, 5};
        for (int i = 0; i < 8; i++) {
            x.box(i, 0, 0, 1, 1, heights[i], true);
            y.box(0, i, 0, 1, 1, heights[i], true);
        }
        // The places from the highest to the lowest.
        int[] order = {1, 5, 3, 7, 6, 0, 4, 2};
        int cover = 0;
        int bits = 0;
        for (int count = 1; count <= 8; count++) {
            cover += 9 - count;
            bits |= 1 << order[count - 1];
            dueBest("the highest " + count + " of axis 0", x, count, 0, cover, bits, 0);
            dueBest("the highest " + count + " of axis 1", y, 0, count, cover, 0, bits);
        }
        SliceBody both = Bodies.of(3, 2, 4);
        both.box(0, 0, 0, 1, 1, 4, true);
        both.box(1, 0, 0, 1, 1, 3, true);
        both.box(2, 0, 0, 1, 1, 2, true);
        both.box(2, 1, 0, 1, 1, 3, true);
        dueBest("what one axis covers the other need not", both, 1, 1, 12, 4, 1);
        dueBest("two of axis 0 alone", both, 2, 0, 9, 5, 0);
        dueBest("all of axis 1 and the least of axis 0", both, 1, 2, 12, 1, 3);
        SliceBody deep = Bodies.of(2, 4, 8);
        deep.box(0, 2, 0, 1, 2, 8, true);
        deep.box(1, 0, 0, 1, 2, 4, true);
        deep.box(1, 3, 0, 1, 1, 5, true);
        dueBest("not the greatest of axis 0, which two of axis 1 cover", deep, 1, 2, 29, 2, 12);
    }

    private static void bestCoverAheadOfCaught() {
        checks.sentence("the greatest COVER, of several the fewest CAUGHT");
        SliceBody b = Bodies.of(2, 1, 8);
        b.box(0, 0, 0, 1, 1, 3, true);
        Bodies.cube(b, 1, 0, 0);
        Bodies.cube(b, 1, 0, 2);
        dueBest("as great either way: what is not caught", b, 1, 1, 5, 1, 1);
        SliceBody more = Bodies.of(2, 2, 5);
        more.box(0, 0, 0, 1, 1, 5, true);
        more.box(0, 0, 2, 1, 1, 1, false);
        Bodies.cube(more, 1, 0, 0);
        dueBest("as great either way: not the least, which is caught", more, 1, 1, 5, 2, 1);
        due("none is caught", 0, more.caught(-1));
        Bodies.cube(more, 0, 1, 0);
        dueBest("one cube more, though it is caught", more, 1, 1, 6, 1, 1);
        due("so it is", 1, more.caught(-1));
        SliceBody many = Bodies.filled(8, 8, 8);
        many.box(0, 0, 0, 4, 4, 8, false);
        many.box(0, 0, 0, 4, 4, 1, true);
        many.box(0, 0, 7, 4, 4, 1, true);
        many.box(4, 4, 2, 4, 4, 6, false);
        dueBest("as great either way: none is caught, not sixteen", many, 4, 4, 288, 240, 240);
        due("so it is with many", 0, many.caught(-1));
        many.box(7, 7, 1, 1, 1, 1, false);
        dueBest("one cube more outweighs sixteen that are caught", many, 4, 4, 288, 15, 15);
        due("sixteen are caught", 16, many.caught(-1));
    }

    private static void bestCaughtAheadOfSets() {
        checks.sentence("of several the fewest CAUGHT, then the least set of axis 0 as bits");
        SliceBody b = Bodies.of(8, 1, 3);
        for (int x = 0; x < 8; x++) {
            Bodies.cube(b, x, 0, 0);
            Bodies.cube(b, x, 0, x == 5 || x == 7 ? 1 : 2);
        }
        dueBest("one that is not caught", b, 1, 1, 16, 32, 1);
        dueBest("two that are not caught", b, 2, 1, 16, 160, 1);
        dueBest("one of three is caught: the least", b, 3, 1, 16, 161, 1);
        due("one is caught", 1, b.caught(-1));
        SliceBody y = Bodies.of(1, 8, 3);
        for (int i = 0; i < 8; i++) {
            Bodies.cube(y, 0, i, 0);
            Bodies.cube(y, 0, i, i == 4 || i == 6 ? 1 : 2);
        }
        dueBest("axis 1: one that is not caught", y, 1, 1, 16, 1, 16);
        dueBest("axis 1: two that are not caught", y, 1, 2, 16, 1, 80);
        dueBest("axis 1: one of three is caught", y, 1, 3, 16, 1, 81);
        dueBest("axis 1 alone: nothing is caught, the least", y, 0, 3, 6, 0, 7);
    }

    private static void bestLeastSetOfAxisZero() {
        checks.sentence("then the least set of axis 0 as bits");
        SliceBody b = Bodies.of(4, 4, 1);
        b.box(0, 0, 0, 1, 2, 1, true);
        b.box(3, 0, 0, 1, 2, 1, true);
        b.box(1, 2, 0, 2, 2, 1, true);
        // All is covered by x 0 and 3 with y 2 and 3, or by x 1 and 2 with y 0 and 1: 9 and 12, or 6 and 3.
        dueBest("6 is less than 9, though 0 is ahead of 1", b, 2, 2, 8, 6, 3);
        SliceBody ends = Bodies.of(8, 1, 1);
        Bodies.cube(ends, 7, 0, 0);
        dueBest("the one with a cube", ends, 1, 0, 1, 128, 0);
        dueBest("and the least beside it", ends, 2, 0, 1, 129, 0);
    }

    private static void bestAxisZeroAheadOfAxisOne() {
        checks.sentence("the least set of axis 0 as bits, then of axis 1");
        SliceBody b = Bodies.of(2, 2, 1);
        Bodies.cube(b, 0, 0, 0);
        Bodies.cube(b, 1, 1, 0);
        dueBest("1 and 2, not 2 and 1", b, 1, 1, 2, 1, 2);
        SliceBody great = Bodies.of(8, 8, 8);
        great.box(0, 0, 0, 1, 1, 8, true);
        great.box(7, 7, 0, 1, 1, 8, true);
        dueBest("1 and 128, not 128 and 1", great, 1, 1, 16, 1, 128);
    }

    private static void bestLeastSetOfAxisOne() {
        checks.sentence("then of axis 1");
        SliceBody b = Bodies.of(1, 8, 2);
        Bodies.cube(b, 0, 3, 0);
        Bodies.cube(b, 0, 5, 1);
        dueBest("the lesser of two", b, 0, 1, 1, 0, 8);
        dueBest("both", b, 0, 2, 2, 0, 40);
        dueBest("and the least beside them", b, 0, 3, 2, 0, 41);
        dueBest("all are covered by axis 0: the least", b, 1, 2, 2, 1, 3);
    }

    private static void bestIsChosen() {
        checks.sentence("THE BEST a and b RIBS: they are chosen");
        SliceBody b = Bodies.full();
        due("goes", 20, b.best(1, 1));
        due("those chosen before are no more, axis 0", 1, b.told(4));
        due("those chosen before are no more, axis 1", 1, b.told(5));
        due("rib of axis 0", 1, b.rib(0, 0, true));
        due("another of axis 0", 0, b.rib(0, 1, false));
        due("rib of axis 1", 1, b.rib(1, 0, true));
        due("another of axis 1", 0, b.rib(1, 1, false));
        due("the cubes stay", 29, b.told(3));
        due("nothing is laid since", STATE, b.least());
    }

    private static void bestSides() {
        checks.sentence("OUTSIDE: a is not 0 to X, b not 0 to Y");
        for (int[] size : Bodies.SIZES) {
            due("X and Y", size[0] * size[1] * size[2], Bodies.laidOut(size).best(size[0], size[1]));
            due("0 and 0", 0, Bodies.laidOut(size).best(0, 0));
            checks.refusedOf("a X + 1", size, OUTSIDE, b -> b.best(size[0] + 1, size[1]));
            checks.refusedOf("b Y + 1", size, OUTSIDE, b -> b.best(size[0], size[1] + 1));
            checks.refusedOf("a -1", size, OUTSIDE, b -> b.best(-1, 0));
            checks.refusedOf("b -1", size, OUTSIDE, b -> b.best(0, -1));
        }
        for (int bad : FAR) {
            checks.refused("a " + bad, OUTSIDE, b -> b.best(bad, 0));
            checks.refused("b " + bad, OUTSIDE, b -> b.best(0, bad));
        }
    }

    // ---- promise 13

    private static void toldAll() {
        checks.sentence("0 X, 1 Y, 2 Z, 3 CUBES, 4 chosen RIBS of axis 0 (bits), 5 of axis 1");
        for (int[] size : Bodies.SIZES) {
            SliceBody b = Bodies.filled(size[0], size[1], size[2]);
            int[] want = {size[0], size[1], size[2], size[0] * size[1] * size[2], 0, 0, 0, 0};
            for (int what = 0; what < 8; what++) {
                due("none chosen: " + what, want[what], b.told(what));
            }
            b.ribs(0, (1 << size[0]) - 1);
            b.ribs(1, 1);
            due("all of axis 0", (1 << size[0]) - 1, b.told(4));
            due("one of axis 1", 1, b.told(5));
            due("each cube is in one cut", want[3], b.told(6));
        }
    }

    private static void toldOfChosenAlone() {
        checks.sentence("6 CUBES of all CUTS, 7 LOOSE PARTS of all chosen RIBS");
        SliceBody b = Bodies.filled(3, 3, 1);
        due("none chosen: cuts", 0, b.told(6));
        due("none chosen: loose", 0, b.told(7));
        b.ribs(0, 5);
        due("two of axis 0: cuts", 6, b.told(6));
        due("two of axis 0: loose", 2, b.told(7));
        b.ribs(1, 2);
        due("and one across, whose slots take a cube each: cuts", 7, b.told(6));
        due("what is left of it between them", 1, b.told(7));
        b.ribs(0, 0);
        due("it alone: cuts", 3, b.told(6));
        due("it alone: loose", 1, b.told(7));
        b.box(1, 1, 0, 1, 1, 1, false);
        due("in two: cuts", 2, b.told(6));
        due("in two: loose", 2, b.told(7));
        SliceBody all = Bodies.filled(8, 8, 8);
        all.ribs(0, 255);
        all.ribs(1, 255);
        due("all: each cube in one cut", 512, all.told(6));
        due("all: all held", 0, all.told(7));
    }

    private static void toldSides() {
        checks.sentence("told: OUTSIDE");
        int[] want = {3, 2, 5, 29, 6, 3, 29, 0};
        for (int what = 0; what < 8; what++) {
            int each = what;
            checks.changesNothing("asks only, " + what, Bodies::full, want[what], b -> b.told(each));
        }
        for (int bad : new int[] {-1, 8, 9, -8}) {
            checks.refused("what " + bad, OUTSIDE, b -> b.told(bad));
        }
        for (int bad : FAR) {
            checks.refused("what " + bad, OUTSIDE, b -> b.told(bad));
        }
    }
}

/** Each boundary that the document names of the solid and its ribs (promises 1 to 8), on both sides. */
public final class SolidBoundariesTest {
    private static final int UNKNOWN = SliceBody.UNKNOWN, OUTSIDE = SliceBody.OUTSIDE, STATE = SliceBody.STATE;
    /** Numbers far off, some of which look small when they are cut, turned round or multiplied by 8. */
    private static final int[] FAR = {Integer.MIN_VALUE, Integer.MIN_VALUE + 1, -256, -32, 31, 32, 33, 256, 257,
        1 << 29, Integer.MAX_VALUE - 1, Integer.MAX_VALUE};
    private static final Checks checks = new Checks();

    public static void main(String[] args) {
        fourEachAtFirst();
        noneIsThereAtFirst();
        noRibsAtFirst();
        nothingLaidAtFirst();
        spaceOneToEight();
        spaceWithoutCubes();
        boxCornersToEight();
        boxSizesToEight();
        boxAsFarAsItLies();
        boxOtherThanBefore();
        atSides();
        ribSides();
        ribWas();
        ribsBits();
        ribsWhichWere();
        figureSides();
        crossingOfBothChosen();
        runsAsLongAsMayBe();
        slotsOfEveryColumn();
        slotsOnlyInTheCrossing();
        notChosenLosesNothing();
        partsHangTogether();
        partsDoNotWrap();
        heldByOneCube();
        looseOnes();
        aboutOfOneNotChosen();
        aboutSpans();
        aboutCounts();
        aboutAllCrossings();
        aboutSides();
        checks.end("SolidBoundariesTest");
    }

    private static void due(String what, long want, long got) {
        checks.due(what, want, got);
    }

    // ---- promise 1

    private static void fourEachAtFirst() {
        checks.sentence("X, Y, Z .. 4 each at first");
        SliceBody b = new SliceBody();
        for (int what = 0; what < 3; what++) {
            due("told " + what, 4, b.told(what));
        }
        due("the last cube", 0, b.at(3, 3, 3));
        due("x 4", UNKNOWN, b.at(4, 3, 3));
        due("y 4", UNKNOWN, b.at(3, 4, 3));
        due("z 4", UNKNOWN, b.at(3, 3, 4));
        due("the last rib of axis 0", 0, b.rib(0, 3, false));
        due("no fifth of axis 0", UNKNOWN, b.rib(0, 4, false));
        due("the last rib of axis 1", 0, b.rib(1, 3, false));
        due("no fifth of axis 1", UNKNOWN, b.rib(1, 4, false));
        due("so many can be put in", 64, b.box(0, 0, 0, 8, 8, 8, true));
    }

    private static void noneIsThereAtFirst() {
        checks.sentence("none is there at first");
        SliceBody b = new SliceBody();
        due("cubes", 0, b.told(3));
        for (int i = 0; i < 64; i++) {
            due("at", 0, b.at(i / 16, i / 4 % 4, i % 4));
        }
        due("none can be taken out", 0, b.box(0, 0, 0, 8, 8, 8, false));
        Bodies.cube(b, 2, 1, 3);
        due("one that was put in", 1, b.told(3));
    }

    private static void noRibsAtFirst() {
        checks.sentence("each is chosen or not (none at first)");
        SliceBody b = new SliceBody();
        due("axis 0", 0, b.told(4));
        due("axis 1", 0, b.told(5));
        b.box(0, 0, 0, 4, 4, 4, true);
        due("none covers", 0, b.cover());
        due("none is laid", 0, b.lay(1, 1, 5));
        for (int place = 0; place < 4; place++) {
            due("axis 0 at " + place, 0, b.rib(0, place, true));
            due("axis 1 at " + place, 0, b.rib(1, place, true));
        }
        due("then all of axis 0", 15, b.told(4));
        due("then all of axis 1", 15, b.told(5));
    }

    private static void nothingLaidAtFirst() {
        checks.sentence("STATE (ahead): there was none");
        SliceBody b = new SliceBody();
        due("laid", STATE, b.laid(0, 0));
        due("least", STATE, b.least());
        due("lay that lays none", 0, b.lay(60, 60, 0));
        due("least of it", 0, b.least());
    }

    // ---- promise 2

    private static void spaceOneToEight() {
        checks.sentence("X, Y, Z 1 to 8");
        for (int n = 1; n <= 8; n++) {
            dueSpace(n, 3, 2);
            dueSpace(3, n, 2);
            dueSpace(3, 2, n);
            dueSpace(n, n, n);
        }
        for (int bad : new int[] {-8, -1, 0, 9, 10, 16}) {
            spaceRefused(bad);
        }
        for (int bad : FAR) {
            spaceRefused(bad);
        }
    }

    private static void dueSpace(int x, int y, int z) {
        SliceBody b = Bodies.full();
        String what = "space " + x + " " + y + " " + z;
        due(what, x * y * z, b.space(x, y, z));
        due(what + ": X", x, b.told(0));
        due(what + ": Y", y, b.told(1));
        due(what + ": Z", z, b.told(2));
        due(what + ": so many can be put in", x * y * z, b.box(0, 0, 0, 8, 8, 8, true));
    }

    private static void spaceRefused(int bad) {
        checks.refused("x " + bad, OUTSIDE, b -> b.space(bad, 1, 8));
        checks.refused("y " + bad, OUTSIDE, b -> b.space(8, bad, 1));
        checks.refused("z " + bad, OUTSIDE, b -> b.space(1, 8, bad));
        checks.refused("all " + bad, OUTSIDE, b -> b.space(bad, bad, bad));
    }

    private static void spaceWithoutCubes() {
        checks.sentence("A space of X, Y, Z without CUBES, no RIBS chosen");
        int[][] sizes = {{3, 2, 5}, {8, 8, 8}, {1, 1, 1}};
        for (int[] size : sizes) {
            SliceBody b = Bodies.full();
            due("goes", size[0] * size[1] * size[2], b.space(size[0], size[1], size[2]));
            for (int what = 3; what < 8; what++) {
                due("told " + what, 0, b.told(what));
            }
            due("cover", 0, b.cover());
            due("caught", 0, b.caught(-1));
            due("laid", STATE, b.laid(0, 0));
            due("least", STATE, b.least());
        }
        SliceBody b = Bodies.filled(8, 8, 8);
        b.ribs(0, 255);
        b.ribs(1, 255);
        b.space(1, 1, 1);
        b.space(8, 8, 8);
        due("nothing comes back: cubes", 0, b.told(3));
        due("nothing comes back: axis 0", 0, b.told(4));
        due("nothing comes back: axis 1", 0, b.told(5));
    }

    // ---- promise 3

    private static void boxCornersToEight() {
        checks.sentence("OUTSIDE: x, y, z -8 to 8");
        for (int corner : new int[] {-8, 8}) {
            due("x " + corner, 0, Bodies.of(8, 8, 8).box(corner, 0, 0, 8, 8, 8, true));
            due("y " + corner, 0, Bodies.of(8, 8, 8).box(0, corner, 0, 8, 8, 8, true));
            due("z " + corner, 0, Bodies.of(8, 8, 8).box(0, 0, corner, 8, 8, 8, true));
        }
        for (int bad : new int[] {-16, -10, -9, 9, 10, 16}) {
            cornerRefused(bad);
        }
        for (int bad : FAR) {
            cornerRefused(bad);
        }
    }

    private static void cornerRefused(int bad) {
        for (boolean in : new boolean[] {false, true}) {
            checks.refused("x " + bad, OUTSIDE, b -> b.box(bad, 0, 0, 8, 8, 8, in));
            checks.refused("y " + bad, OUTSIDE, b -> b.box(0, bad, 0, 8, 8, 8, in));
            checks.refused("z " + bad, OUTSIDE, b -> b.box(0, 0, bad, 8, 8, 8, in));
        }
    }

    private static void boxSizesToEight() {
        checks.sentence("so many CUBES wide each way (1 to 8)");
        for (int n = 1; n <= 8; n++) {
            due("wide " + n, n * 2, Bodies.of(8, 8, 8).box(0, 0, 0, n, 1, 2, true));
            due("deep " + n, n * 2, Bodies.of(8, 8, 8).box(0, 0, 0, 2, n, 1, true));
            due("high " + n, n * 2, Bodies.of(8, 8, 8).box(0, 0, 0, 1, 2, n, true));
        }
        for (int bad : new int[] {-8, -1, 0, 9, 10, 16}) {
            sizeRefused(bad);
        }
        for (int bad : FAR) {
            sizeRefused(bad);
        }
    }

    private static void sizeRefused(int bad) {
        for (boolean in : new boolean[] {false, true}) {
            checks.refused("wide " + bad, OUTSIDE, b -> b.box(0, 0, 0, bad, 8, 8, in));
            checks.refused("deep " + bad, OUTSIDE, b -> b.box(0, 0, 0, 8, bad, 8, in));
            checks.refused("high " + bad, OUTSIDE, b -> b.box(0, 0, 0, 8, 8, bad, in));
            // Not even where no cube of it would lie in the space.
            checks.refused("wide " + bad + " off the space", OUTSIDE, b -> b.box(8, 8, 8, bad, 1, 1, in));
        }
    }

    /** Every corner and width along each side, in spaces of every such side. */
    private static void boxAsFarAsItLies() {
        checks.sentence("as far as it lies in the space");
        for (int side = 1; side <= 8; side++) {
            for (int from = -8; from <= 8; from++) {
                for (int width = 1; width <= 8; width++) {
                    dueAlongX(side, from, width);
                    dueAlongY(side, from, width);
                    dueAlongZ(side, from, width);
                }
            }
        }
    }

    private static int bitsOfBox(int side, int from, int width) {
        int bits = 0;
        for (int i = 0; i < side; i++) {
            bits |= i >= from && i < from + width ? 1 << i : 0;
        }
        return bits;
    }

    private static void dueAlongX(int side, int from, int width) {
        SliceBody b = Bodies.of(side, 1, 1);
        int bits = bitsOfBox(side, from, width);
        String what = "x " + from + ", wide " + width + " of " + side;
        due(what, Integer.bitCount(bits), b.box(from, 0, 0, width, 1, 1, true));
        for (int x = 0; x < side; x++) {
            due(what + " at " + x, bits >> x & 1, b.at(x, 0, 0));
        }
        due(what + " out", Integer.bitCount(bits), b.box(from, 0, 0, width, 1, 1, false));
    }

    private static void dueAlongY(int side, int from, int width) {
        SliceBody b = Bodies.of(1, side, 1);
        int bits = bitsOfBox(side, from, width);
        String what = "y " + from + ", deep " + width + " of " + side;
        due(what, Integer.bitCount(bits), b.box(0, from, 0, 1, width, 1, true));
        for (int y = 0; y < side; y++) {
            due(what + " at " + y, bits >> y & 1, b.at(0, y, 0));
        }
        due(what + " out", Integer.bitCount(bits), b.box(0, from, 0, 1, width, 1, false));
    }

    private static void dueAlongZ(int side, int from, int width) {
        SliceBody b = Bodies.of(1, 1, side);
        int bits = bitsOfBox(side, from, width);
        String what = "z " + from + ", high " + width + " of " + side;
        due(what, Integer.bitCount(bits), b.box(0, 0, from, 1, 1, width, true));
        for (int z = 0; z < side; z++) {
            due(what + " at " + z, bits >> z & 1, b.at(0, 0, z));
        }
        due(what + " out", Integer.bitCount(bits), b.box(0, 0, from, 1, 1, width, false));
    }

    private static void boxOtherThanBefore() {
        checks.sentence("how many CUBES are other than before");
        SliceBody b = Bodies.of(4, 4, 4);
        due("into none", 8, b.box(1, 1, 1, 2, 2, 2, true));
        due("all are there", 0, b.box(1, 1, 1, 2, 2, 2, true));
        due("all but one are there", 1, b.box(1, 1, 1, 1, 1, 3, true));
        due("out, one is there", 1, b.box(0, 0, 0, 2, 2, 2, false));
        due("out, none is there", 0, b.box(0, 0, 0, 2, 2, 2, false));
        due("left", 8, b.told(3));
        due("until it is full", 56, b.box(-8 + 4, -4, -4, 8, 8, 8, true));
        due("full", 64, b.told(3));
        due("no more into it", 0, b.box(0, 0, 0, 8, 8, 8, true));
        due("all out", 64, b.box(0, 0, 0, 8, 8, 8, false));
        due("empty", 0, b.told(3));
    }

    // ---- promise 4

    private static void atSides() {
        checks.sentence("CUBES at x, y, z (0 to X - 1, Y - 1, Z - 1); at: UNKNOWN");
        for (int[] size : Bodies.SIZES) {
            SliceBody b = Bodies.laidOut(size);
            due("the first", 1, b.at(0, 0, 0));
            due("the last", 1, b.at(size[0] - 1, size[1] - 1, size[2] - 1));
            b.box(size[0] - 1, size[1] - 1, size[2] - 1, 1, 1, 1, false);
            due("the last, taken out", 0, b.at(size[0] - 1, size[1] - 1, size[2] - 1));
            for (int bad : beside(size[0])) {
                checks.refusedOf("x " + bad, size, UNKNOWN, c -> c.at(bad, 0, 0));
            }
            for (int bad : beside(size[1])) {
                checks.refusedOf("y " + bad, size, UNKNOWN, c -> c.at(0, bad, 0));
            }
            for (int bad : beside(size[2])) {
                checks.refusedOf("z " + bad, size, UNKNOWN, c -> c.at(0, 0, bad));
            }
        }
    }

    /** What is just not 0 to count - 1, and what is far from it. */
    private static int[] beside(int count) {
        return new int[] {-1, count, -count, count + 8, 64, -64, Integer.MIN_VALUE, Integer.MAX_VALUE, 1 << 29,
            1 << 31 | 1};
    }

    // ---- promise 5

    private static void ribSides() {
        checks.sentence("A RIB is chosen, or not .. UNKNOWN");
        for (int[] size : Bodies.SIZES) {
            for (int axis = 0; axis < 2; axis++) {
                int each = axis;
                SliceBody b = Bodies.of(size[0], size[1], size[2]);
                due("the last", 0, b.rib(axis, size[axis] - 1, true));
                due("it alone", 1 << size[axis] - 1, b.told(4 + axis));
                due("none of the other axis", 0, b.told(5 - axis));
                due("the last again", 1, b.rib(axis, size[axis] - 1, false));
                for (int bad : beside(size[axis])) {
                    checks.refusedOf("axis " + axis + " at " + bad, size, UNKNOWN, c -> c.rib(each, bad, true));
                    checks.refusedOf("axis " + axis + " at " + bad, size, UNKNOWN, c -> c.rib(each, bad, false));
                }
            }
        }
        for (int bad : new int[] {-1, 2, 3, Integer.MIN_VALUE, Integer.MAX_VALUE}) {
            checks.refused("axis " + bad, UNKNOWN, b -> b.rib(bad, 0, true));
            checks.refused("axis " + bad, UNKNOWN, b -> b.rib(bad, 0, false));
        }
    }

    private static void ribWas() {
        checks.sentence("whether it was (1, 0)");
        SliceBody b = Bodies.of(8, 8, 1);
        for (int axis = 0; axis < 2; axis++) {
            for (int place = 0; place < 8; place++) {
                due("it was not, and is not", 0, b.rib(axis, place, false));
                due("it was not, and is", 0, b.rib(axis, place, true));
                due("it was, and is", 1, b.rib(axis, place, true));
                due("so far", (2 << place) - 1, b.told(4 + axis));
            }
            for (int place = 0; place < 8; place++) {
                due("it was, and is not", 1, b.rib(axis, place, false));
                due("left", 255 & -(2 << place), b.told(4 + axis));
            }
        }
    }

    // ---- promise 6

    private static void ribsBits() {
        checks.sentence("OUTSIDE: axis, bits");
        for (int[] size : Bodies.SIZES) {
            for (int axis = 0; axis < 2; axis++) {
                int each = axis;
                int all = (1 << size[axis]) - 1;
                SliceBody b = Bodies.of(size[0], size[1], size[2]);
                due("all", 0, b.ribs(axis, all));
                due("all are told", all, b.told(4 + axis));
                due("none", all, b.ribs(axis, 0));
                due("none is told", 0, b.told(4 + axis));
                for (int bad : new int[] {all + 1, -1, 2 * all + 1, 256, -256, 512, 1 << 16, Integer.MIN_VALUE,
                    Integer.MAX_VALUE, Integer.MIN_VALUE | 1}) {
                    checks.refusedOf("axis " + axis + ", bits " + bad, size, OUTSIDE, c -> c.ribs(each, bad));
                }
            }
        }
        for (int bad : new int[] {-1, 2, 3, Integer.MIN_VALUE, Integer.MAX_VALUE}) {
            checks.refused("axis " + bad, OUTSIDE, b -> b.ribs(bad, 0));
            checks.refused("axis " + bad + ", bits too", OUTSIDE, b -> b.ribs(bad, -1));
        }
    }

    private static void ribsWhichWere() {
        checks.sentence("All RIBS of an axis by bits: which were");
        SliceBody b = Bodies.of(8, 8, 1);
        int before = 0;
        for (int bits = 0; bits < 160; bits++) {
            int next = bits * 73 & 255;
            due("axis 0", before, b.ribs(0, next));
            due("axis 1", before, b.ribs(1, next));
            before = next;
        }
        due("as rib() tells it", before & 1, b.rib(0, 0, true));
        due("rib() is seen too", before | 1, b.ribs(0, 0));
        due("not by the other axis", before, b.ribs(1, 0));
    }

    // ---- promise 7

    private static void figureSides() {
        checks.sentence("figure: UNKNOWN: the RIB, u, z");
        for (int[] size : Bodies.SIZES) {
            for (int axis = 0; axis < 2; axis++) {
                SliceBody b = Bodies.filled(size[0], size[1], size[2]);
                due("the last of all", 1, b.figure(axis, size[axis] - 1, size[1 - axis] - 1, size[2] - 1, false));
                due("the last of the cut", 1, b.figure(axis, size[axis] - 1, size[1 - axis] - 1, size[2] - 1, true));
                figureRefused(size, axis, false);
                figureRefused(size, axis, true);
            }
        }
        for (int bad : new int[] {-1, 2, Integer.MIN_VALUE, Integer.MAX_VALUE}) {
            checks.refused("axis " + bad, UNKNOWN, b -> b.figure(bad, 0, 0, 0, false));
            checks.refused("axis " + bad + ", cut", UNKNOWN, b -> b.figure(bad, 0, 0, 0, true));
        }
    }

    private static void figureRefused(int[] size, int axis, boolean cut) {
        for (int bad : beside(size[axis])) {
            checks.refusedOf("axis " + axis + " at " + bad, size, UNKNOWN, b -> b.figure(axis, bad, 0, 0, cut));
        }
        for (int bad : beside(size[1 - axis])) {
            checks.refusedOf("axis " + axis + ", u " + bad, size, UNKNOWN, b -> b.figure(axis, 0, bad, 0, cut));
        }
        for (int bad : beside(size[2])) {
            checks.refusedOf("axis " + axis + ", z " + bad, size, UNKNOWN, b -> b.figure(axis, 0, 0, bad, cut));
        }
    }

    private static void crossingOfBothChosen() {
        checks.sentence("A CROSSING: an x and a y, whose RIBS both are chosen");
        for (int chosen = 0; chosen < 4; chosen++) {
            SliceBody b = Bodies.filled(1, 1, 2);
            b.ribs(0, chosen & 1);
            b.ribs(1, chosen >> 1);
            int is = chosen == 3 ? 1 : 0;
            due("cut of axis 0, chosen " + chosen, 2 - is, b.about(0, 0, 1));
            due("cut of axis 1, chosen " + chosen, 2 - is, b.about(1, 0, 1));
            due("loose ones of axis 0, chosen " + chosen, 1 - is, b.about(0, 0, 4));
            due("loose ones of axis 1, chosen " + chosen, 1 - is, b.about(1, 0, 4));
            due("crossings of axis 0, chosen " + chosen, is, b.about(0, 0, 5));
            due("crossings of axis 1, chosen " + chosen, is, b.about(1, 0, 5));
            due("runs of axis 0, chosen " + chosen, is, b.about(0, 0, 6));
            due("runs of axis 1, chosen " + chosen, is, b.about(1, 0, 6));
        }
    }

    private static void runsAsLongAsMayBe() {
        checks.sentence("rows of CUBES .. one above the other at x, y, as long as may be");
        SliceBody b = Bodies.of(1, 1, 8);
        b.ribs(0, 1);
        b.ribs(1, 1);
        b.box(0, 0, 0, 1, 1, 3, true);
        b.box(0, 0, 5, 1, 1, 3, true);
        due("a gap of two", 2, b.about(0, 0, 6));
        b.box(0, 0, 3, 1, 1, 1, true);
        due("a gap of one", 2, b.about(0, 0, 6));
        due("the upmost two of four are lost", 0, b.figure(0, 0, 0, 2, true));
        b.box(0, 0, 4, 1, 1, 1, true);
        due("none: one, though put in piece by piece", 1, b.about(0, 0, 6));
        due("the upmost four of eight are lost", 0, b.figure(0, 0, 0, 4, true));
        due("the fourth is kept", 1, b.figure(0, 0, 0, 3, true));
    }

    private static void slotsOfEveryColumn() {
        checks.sentence("Of a RUN of n the RIB of axis 0 loses the n by 2 upmost CUBES, that of axis 1 the others");
        for (int bits = 0; bits < 256; bits++) {
            SliceBody b = Bodies.column(bits, true);
            int kept = keptByAxisZero(bits);
            for (int z = 0; z < 8; z++) {
                String what = "column " + bits + " at " + z;
                due(what + ", axis 0", kept >> z & 1, b.figure(0, 0, 0, z, true));
                due(what + ", axis 1", (bits & ~kept) >> z & 1, b.figure(1, 0, 0, z, true));
                due(what + ", figure of axis 0", bits >> z & 1, b.figure(0, 0, 0, z, false));
                due(what + ", figure of axis 1", bits >> z & 1, b.figure(1, 0, 0, z, false));
            }
            due("column " + bits + ": each cube is in one cut", Integer.bitCount(bits), b.told(6));
        }
    }

    private static int keptByAxisZero(int bits) {
        int kept = 0;
        int from = 0;
        for (int z = 0; z < 8; z++) {
            boolean cube = (bits >> z & 1) == 1;
            boolean ends = z == 7 || (bits >> z + 1 & 1) == 0;
            if (!cube) {
                from = z + 1;
            } else if (ends) {
                int length = z + 1 - from;
                for (int i = 0; i < length - length / 2; i++) {
                    kept |= 1 << from + i;
                }
            }
        }
        return kept;
    }

    private static void slotsOnlyInTheCrossing() {
        checks.sentence("The CUT of a chosen RIB: its FIGURE without what it loses");
        SliceBody b = Bodies.filled(3, 3, 3);
        b.ribs(0, 2);
        b.ribs(1, 2);
        for (int u = 0; u < 3; u++) {
            for (int z = 0; z < 3; z++) {
                due("axis 0, " + u + " " + z, u == 1 && z == 2 ? 0 : 1, b.figure(0, 1, u, z, true));
                due("axis 1, " + u + " " + z, u == 1 && z < 2 ? 0 : 1, b.figure(1, 1, u, z, true));
            }
        }
        due("axis 0 in all", 8, b.about(0, 1, 1));
        due("axis 1 in all", 7, b.about(1, 1, 1));
    }

    private static void notChosenLosesNothing() {
        checks.sentence("The FIGURE of one that is not chosen loses nothing");
        for (int axis = 0; axis < 2; axis++) {
            SliceBody b = Bodies.filled(3, 3, 4);
            b.ribs(1 - axis, 7);
            b.ribs(axis, 5);
            for (int u = 0; u < 3; u++) {
                for (int z = 0; z < 4; z++) {
                    due("axis " + axis + ", u " + u + ", z " + z, 1, b.figure(axis, 1, u, z, true));
                }
            }
            due("cubes of axis " + axis, 12, b.about(axis, 1, 1));
            b.rib(axis, 1, true);
            due("cubes of axis " + axis + ", chosen", 6, b.about(axis, 1, 1));
        }
    }

    // ---- promise 8

    private static void partsHangTogether() {
        checks.sentence("CUBES that hang together side by side or one above the other");
        dueParts("none", 0);
        dueParts("one", 1, 33);
        dueParts("side by side", 1, 33, 43);
        dueParts("one above the other", 1, 33, 34);
        dueParts("at a corner, rising", 2, 33, 44);
        dueParts("at a corner, falling", 2, 33, 42);
        dueParts("a gap between, side by side", 2, 33, 53);
        dueParts("a gap between, one above the other", 2, 33, 35);
        dueParts("round the corner", 1, 33, 43, 44);
        dueParts("there and back, rising", 1, 33, 43, 44, 45, 35);
        dueParts("there and back, falling", 1, 43, 33, 34, 35, 45);
        dueParts("up and down again", 1, 33, 34, 44, 54, 53);
        dueParts("down and up again", 1, 34, 33, 43, 53, 54);
        dueParts("a ring with a hole", 1, 33, 34, 35, 43, 45, 53, 54, 55);
        dueParts("a ring with one in it, two apart", 2, 22, 23, 24, 25, 26, 32, 36, 42, 44, 46, 52, 56, 62, 63, 64,
            65, 66);
    }

    /** Cubes are told as 10 u + z; both axes, so that u is once y and once x. */
    private static void dueParts(String what, int want, int... cubes) {
        SliceBody b = Bodies.of(8, 8, 8);
        for (int cube : cubes) {
            Bodies.cube(b, 3, cube / 10, cube % 10);
        }
        due(what + ", axis 0", want, b.about(0, 3, 2));
        due(what + ", axis 0, of the cut", want, b.about(0, 3, 3));
        b.space(8, 8, 8);
        for (int cube : cubes) {
            Bodies.cube(b, cube / 10, 3, cube % 10);
        }
        due(what + ", axis 1", want, b.about(1, 3, 2));
        due(what + ", axis 1, of the cut", want, b.about(1, 3, 3));
    }

    private static void partsDoNotWrap() {
        checks.sentence("side by side or one above the other: the top of one u is not beside the bottom of the next");
        for (int high = 2; high <= 8; high++) {
            for (int u = 0; u < 8; u++) {
                SliceBody b = Bodies.of(1, 8, high);
                Bodies.cube(b, 0, u, high - 1);
                Bodies.cube(b, 0, (u + 1) % 8, 0);
                due("u " + u + ", " + high + " high", 2, b.about(0, 0, 2));
                b.box(0, 0, 0, 8, 8, 8, false);
                Bodies.cube(b, 0, u, 0);
                Bodies.cube(b, 0, u, high - 1);
                due("top and bottom of u " + u + ", " + high + " high", high == 2 ? 1 : 2, b.about(0, 0, 2));
            }
        }
        SliceBody b = Bodies.of(1, 8, 8);
        b.box(0, 0, 3, 1, 1, 1, true);
        b.box(0, 7, 3, 1, 1, 1, true);
        due("the first and the last u", 2, b.about(0, 0, 2));
    }

    private static void heldByOneCube() {
        checks.sentence("A PART of a CUT is HELD, if one of its CUBES lies in a CROSSING; else it is LOOSE");
        SliceBody b = Bodies.of(8, 1, 2);
        b.box(0, 0, 0, 8, 1, 1, true);
        b.ribs(1, 1);
        due("no crossing: loose", 1, b.about(1, 0, 4));
        b.ribs(0, 128);
        due("its cube in the crossing is lost: what is beside it is loose", 1, b.about(1, 0, 4));
        Bodies.cube(b, 7, 0, 1);
        due("the one left in the crossing does not hang on it", 1, b.about(1, 0, 4));
        due("two parts", 2, b.about(1, 0, 3));
        Bodies.cube(b, 6, 0, 1);
        due("now it does, seven cubes off", 0, b.about(1, 0, 4));
        due("one part", 1, b.about(1, 0, 3));
        b.ribs(0, 0);
        due("a crossing no more: loose", 1, b.about(1, 0, 4));
        SliceBody empty = Bodies.of(3, 1, 1);
        Bodies.cube(empty, 0, 0, 0);
        empty.ribs(0, 2);
        empty.ribs(1, 1);
        due("a crossing without cubes holds nothing beside it", 1, empty.about(1, 0, 4));
    }

    private static void looseOnes() {
        checks.sentence("3 of its CUT, 4 LOOSE ones of these");
        SliceBody b = Bodies.of(7, 1, 2);
        b.box(0, 0, 0, 7, 1, 2, true);
        b.box(3, 0, 0, 1, 1, 2, false);
        b.ribs(1, 1);
        due("two parts", 2, b.about(1, 0, 3));
        due("both loose", 2, b.about(1, 0, 4));
        b.ribs(0, 2);
        due("still two", 2, b.about(1, 0, 3));
        due("one of them loose", 1, b.about(1, 0, 4));
        b.ribs(0, 34);
        due("two again", 2, b.about(1, 0, 3));
        due("none loose", 0, b.about(1, 0, 4));
        due("of the rib across", 0, b.about(0, 1, 4));
        b.box(1, 0, 1, 1, 1, 1, false);
        due("cut in two by the slot, and the other", 3, b.about(1, 0, 3));
        due("two loose", 2, b.about(1, 0, 4));
    }

    private static void aboutOfOneNotChosen() {
        checks.sentence("5, 6 of one that is not chosen: 0; its PARTS are all LOOSE");
        for (int axis = 0; axis < 2; axis++) {
            SliceBody b = Bodies.filled(5, 5, 5);
            b.box(axis == 0 ? 2 : 0, axis == 0 ? 0 : 2, 1, axis == 0 ? 1 : 5, axis == 0 ? 5 : 1, 1, false);
            b.ribs(1 - axis, 31);
            int[] notChosen = {20, 20, 2, 2, 2, 0, 0, 5, 5};
            for (int what = 0; what < 9; what++) {
                due("axis " + axis + ", " + what, notChosen[what], b.about(axis, 2, what));
            }
            b.rib(axis, 2, true);
            due("chosen, axis " + axis + ": crossings", 5, b.about(axis, 2, 5));
            due("chosen, axis " + axis + ": runs", 10, b.about(axis, 2, 6));
            due("chosen, axis " + axis + ": loose", 0, b.about(axis, 2, 4));
            b.ribs(1 - axis, 0);
            due("alone, axis " + axis + ": crossings", 0, b.about(axis, 2, 5));
            due("alone, axis " + axis + ": runs", 0, b.about(axis, 2, 6));
            due("alone, axis " + axis + ": loose", 2, b.about(axis, 2, 4));
        }
    }

    private static void aboutSpans() {
        checks.sentence("7 span of u of its FIGURE (0), 8 span of z (0)");
        for (int first = 0; first < 8; first++) {
            for (int last = first; last < 8; last++) {
                SliceBody b = Bodies.of(8, 8, 8);
                due("u of none", 0, b.about(0, 5, 7));
                due("z of none", 0, b.about(0, 5, 8));
                Bodies.cube(b, 5, first, 7 - last);
                Bodies.cube(b, 5, last, 7 - first);
                String what = first + " to " + last;
                due("axis 0: u " + what, last - first + 1, b.about(0, 5, 7));
                due("axis 0: z " + what, last - first + 1, b.about(0, 5, 8));
                due("axis 1: u " + what, 1, b.about(1, last, 7));
                due("axis 1: z " + what, 1, b.about(1, last, 8));
                due("another rib: u", 0, b.about(0, 4, 7));
                due("another rib: z", 0, b.about(0, 4, 8));
            }
        }
        SliceBody b = Bodies.of(8, 1, 8);
        b.box(2, 0, 3, 1, 1, 1, true);
        b.box(7, 0, 3, 1, 1, 1, true);
        b.ribs(0, 255);
        b.ribs(1, 1);
        due("nothing is left of the cut", 0, b.about(1, 0, 1));
        due("the span of u is the figure's", 6, b.about(1, 0, 7));
        due("the span of z is the figure's", 1, b.about(1, 0, 8));
    }

    private static void aboutCounts() {
        checks.sentence("0 CUBES of its FIGURE, 1 of its CUT, 2 PARTS of its FIGURE, 3 of its CUT");
        int[][] wants = {{0, 0, 0, 0, 0, 0, 0, 0, 0}, {64, 32, 1, 1, 0, 8, 8, 8, 8}};
        for (int axis = 0; axis < 2; axis++) {
            SliceBody b = Bodies.of(8, 8, 8);
            b.ribs(0, 255);
            b.ribs(1, 255);
            for (int[] want : wants) {
                for (int what = 0; what < 9; what++) {
                    due("axis " + axis + ", " + what, want[what], b.about(axis, 7, what));
                }
                b.box(0, 0, 0, 8, 8, 8, true);
            }
        }
    }

    private static void aboutAllCrossings() {
        checks.sentence("5 CROSSINGS with a RUN, 6 RUNS in all its CROSSINGS");
        for (int[] size : Bodies.SIZES) {
            for (int axis = 0; axis < 2; axis++) {
                SliceBody b = Bodies.of(size[0], size[1], size[2]);
                b.ribs(0, (1 << size[0]) - 1);
                b.ribs(1, (1 << size[1]) - 1);
                due("no run: crossings, axis " + axis, 0, b.about(axis, 0, 5));
                due("no run: runs, axis " + axis, 0, b.about(axis, 0, 6));
                b.box(0, 0, 0, 8, 8, 8, true);
                for (int z = 1; z < size[2]; z += 2) {
                    b.box(0, 0, z, 8, 8, 1, false);
                }
                int across = size[1 - axis];
                due("all: crossings, axis " + axis, across, b.about(axis, size[axis] - 1, 5));
                due("all: runs, axis " + axis, across * ((size[2] + 1) / 2), b.about(axis, size[axis] - 1, 6));
                b.rib(1 - axis, across - 1, false);
                due("but the last: crossings, axis " + axis, across - 1, b.about(axis, 0, 5));
                due("but the last: runs, axis " + axis, (across - 1) * ((size[2] + 1) / 2), b.about(axis, 0, 6));
            }
        }
    }

    private static void aboutSides() {
        checks.sentence("about: UNKNOWN; OUTSIDE");
        for (int[] size : Bodies.SIZES) {
            for (int axis = 0; axis < 2; axis++) {
                int each = axis;
                due("the last", size[1 - axis] * size[2],
                    Bodies.filled(size[0], size[1], size[2]).about(axis, size[axis] - 1, 0));
                for (int bad : beside(size[axis])) {
                    checks.refusedOf("axis " + axis + " at " + bad, size, UNKNOWN, b -> b.about(each, bad, 0));
                    checks.refusedOf("UNKNOWN first, at " + bad, size, UNKNOWN, b -> b.about(each, bad, 9));
                }
            }
        }
        for (int bad : new int[] {-1, 2, Integer.MIN_VALUE, Integer.MAX_VALUE}) {
            checks.refused("axis " + bad, UNKNOWN, b -> b.about(bad, 0, 8));
            checks.refused("UNKNOWN first, axis " + bad, UNKNOWN, b -> b.about(bad, 0, -1));
        }
        for (int bad : new int[] {-1, 9, 10, Integer.MIN_VALUE, Integer.MAX_VALUE}) {
            checks.refused("axis 0, what " + bad, OUTSIDE, b -> b.about(0, 0, bad));
            checks.refused("axis 1, what " + bad, OUTSIDE, b -> b.about(1, 0, bad));
        }
        for (int what = 0; what < 9; what++) {
            int each = what;
            checks.changesNothing("asks only, " + what, Bodies::full, Bodies.full().about(1, 1, what),
                b -> b.about(1, 1, each));
        }
    }
}

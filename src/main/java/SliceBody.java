/**
 * Bodies of slices: a solid of small cubes, the flat ribs that are cut out of it, how these go
 * together, and how they are laid onto boards.
 *
 * <p>This outer class is the face of the document: it looks at every argument, answers what is
 * refused, and lets the classes inside do the rest.
 */
public final class SliceBody {
    public static final int UNKNOWN = -1, OUTSIDE = -2, STATE = -3, NO = -5, NONE = -6;

    private static final int MOST_SIZE = 8;
    private static final int MOST_BOARD = 60;
    private static final int MOST_KERF = 5;
    private static final int HOW_MANY = -1;

    private final Solid solid;
    private final Boards boards;

    public SliceBody() {
        solid = new Solid();
        boards = new Boards();
    }

    // ---- 1 the solid, ribs

    public int space(int x, int y, int z) {
        if (!isSize(x) || !isSize(y) || !isSize(z)) {
            return OUTSIDE;
        }
        solid.beginAnew(x, y, z);
        boards.forget();
        return x * y * z;
    }

    public int box(int x, int y, int z, int wide, int deep, int high, boolean in) {
        if (!isCorner(x) || !isCorner(y) || !isCorner(z)) {
            return OUTSIDE;
        }
        if (!isSize(wide) || !isSize(deep) || !isSize(high)) {
            return OUTSIDE;
        }
        int layers = Column.bitsBetween(z, Math.min(z + high, solid.high));
        int endX = Math.min(x + wide, solid.wide);
        int endY = Math.min(y + deep, solid.deep);
        int changed = 0;
        for (int i = Math.max(x, 0); i < endX; i++) {
            for (int j = Math.max(y, 0); j < endY; j++) {
                changed += solid.changeColumn(i, j, layers, in);
            }
        }
        boards.forget();
        return changed;
    }

    public int at(int x, int y, int z) {
        if (!solid.hasColumn(x, y) || !solid.hasLayer(z)) {
            return UNKNOWN;
        }
        return asNumber(Column.hasBit(solid.columnAt(x, y), z));
    }

    public int rib(int axis, int place, boolean is) {
        if (!solid.hasRib(axis, place)) {
            return UNKNOWN;
        }
        boolean was = solid.isChosen(axis, place);
        int others = solid.chosenBits(axis) & ~(1 << place);
        solid.choose(axis, is ? others | 1 << place : others);
        boards.forget();
        return asNumber(was);
    }

    public int ribs(int axis, int bits) {
        if (axis < 0 || axis > 1 || bits < 0 || bits >= 1 << solid.ribCount(axis)) {
            return OUTSIDE;
        }
        int were = solid.chosenBits(axis);
        solid.choose(axis, bits);
        boards.forget();
        return were;
    }

    public int figure(int axis, int place, int u, int z, boolean cut) {
        if (!solid.hasRib(axis, place) || !solid.hasRib(1 - axis, u) || !solid.hasLayer(z)) {
            return UNKNOWN;
        }
        long cubes = cut ? solid.cutOf(axis, place) : solid.figureOf(axis, place);
        return asNumber(Column.hasBit(Figure.columnAt(cubes, u), z));
    }

    public int about(int axis, int place, int what) {
        if (!solid.hasRib(axis, place)) {
            return UNKNOWN;
        }
        switch (what) {
            case 0: return Long.bitCount(solid.figureOf(axis, place));
            case 1: return Long.bitCount(solid.cutOf(axis, place));
            case 2: return Figure.partCount(solid.figureOf(axis, place));
            case 3: return Figure.partCount(solid.cutOf(axis, place));
            case 4: return solid.loosePartsOf(axis, place);
            case 5: return solid.crossingsWithRun(axis, place);
            case 6: return solid.runsInCrossings(axis, place);
            case 7: return Figure.spanOfU(solid.figureOf(axis, place));
            case 8: return Figure.spanOfZ(solid.figureOf(axis, place));
            default: return OUTSIDE;
        }
    }

    // ---- 2 together

    public int caught(int i) {
        int seen = 0;
        for (int x = 0; x < solid.wide; x++) {
            int crossings = solid.crossingsOf(0, x);
            for (int y = 0; y < solid.deep; y++) {
                if (Column.hasBit(crossings, y) && solid.wouldCatch(x, y)) {
                    if (seen == i) {
                        return 10 * x + y;
                    }
                    seen++;
                }
            }
        }
        return i == HOW_MANY ? seen : NONE;
    }

    public int run(int x, int y, int i) {
        if (!solid.hasColumn(x, y)) {
            return UNKNOWN;
        }
        int column = solid.columnAt(x, y);
        int seen = 0;
        for (int z = 0; z < solid.high; z++) {
            if (Column.beginsRun(column, z)) {
                if (seen == i) {
                    return 10 * z + Column.runLength(column, z);
                }
                seen++;
            }
        }
        return i == HOW_MANY ? seen : NONE;
    }

    public int cover() {
        return solid.coveredCubes();
    }

    public int best(int a, int b) {
        if (a < 0 || a > solid.wide || b < 0 || b > solid.deep) {
            return OUTSIDE;
        }
        solid.chooseBest(a, b);
        boards.forget();
        return solid.coveredCubes();
    }

    public int told(int what) {
        switch (what) {
            case 0: return solid.wide;
            case 1: return solid.deep;
            case 2: return solid.high;
            case 3: return solid.cubeCount();
            case 4: return solid.chosenBits(0);
            case 5: return solid.chosenBits(1);
            case 6: return solid.cubesOfCuts();
            case 7: return solid.looseParts();
            default: return OUTSIDE;
        }
    }

    // ---- 3 boards

    public int lay(int w, int h, int k) {
        if (w < 1 || w > MOST_BOARD || h < 1 || h > MOST_BOARD || k < 0 || k > MOST_KERF) {
            return OUTSIDE;
        }
        if (!allFitInto(w - k, h - k)) {
            return NO;
        }
        boards.clear();
        for (int axis = 0; axis < 2; axis++) {
            for (int place = 0; place < solid.ribCount(axis); place++) {
                long figure = solid.chosenFigure(axis, place);
                if (figure != 0) {
                    boards.add(axis, place, Figure.spanOfU(figure) + k, Figure.spanOfZ(figure) + k);
                }
            }
        }
        boards.layInRows(w, h);
        return boards.boardCount;
    }

    public int laid(int i, int what) {
        if (!boards.known) {
            return STATE;
        }
        if (what < 0 || what >= Boards.FACTS) {
            return OUTSIDE;
        }
        if (i < 0 || i >= boards.count) {
            return NONE;
        }
        return boards.fact(i, what);
    }

    public int least() {
        return boards.known ? boards.fewest : STATE;
    }

    private static boolean isSize(int number) {
        return number >= 1 && number <= MOST_SIZE;
    }

    private static boolean isCorner(int number) {
        return number >= -MOST_SIZE && number <= MOST_SIZE;
    }

    private static int asNumber(boolean yes) {
        return yes ? 1 : 0;
    }

    /** Asked before anything is laid, so that a lay() that is refused leaves the latest one as it is. */
    private boolean allFitInto(int width, int height) {
        for (int axis = 0; axis < 2; axis++) {
            for (int place = 0; place < solid.ribCount(axis); place++) {
                long figure = solid.chosenFigure(axis, place);
                // A figure without cubes needs no place, even if the kerf alone is too wide.
                if (figure != 0 && (Figure.spanOfU(figure) > width || Figure.spanOfZ(figure) > height)) {
                    return false;
                }
            }
        }
        return true;
    }

    /** The cubes one above the other at one x and y as bits: bit z is set where a cube is. */
    private static final class Column {
        static final int MOST = MOST_SIZE;
        static final int FULL = 255;

        static boolean hasBit(int bits, int place) {
            return place >= 0 && place < MOST && (bits >> place & 1) == 1;
        }

        static int bitsBetween(int from, int end) {
            int bits = 0;
            for (int place = Math.max(from, 0); place < Math.min(end, MOST); place++) {
                bits |= 1 << place;
            }
            return bits;
        }

        static boolean beginsRun(int column, int z) {
            return hasBit(column, z) && !hasBit(column, z - 1);
        }

        static int runCount(int column) {
            return Integer.bitCount(column & ~(column << 1));
        }

        static int runLength(int column, int from) {
            int length = 0;
            while (length < MOST && hasBit(column, from + length)) {
                length++;
            }
            return length;
        }

        /** What axis 0 loses in a crossing; all else of the column is what axis 1 loses. */
        static int upperHalves(int column) {
            int halves = 0;
            for (int z = 0; z < MOST; z++) {
                if (beginsRun(column, z)) {
                    int length = runLength(column, z);
                    halves |= bitsBetween(z + length - length / 2, z + length);
                }
            }
            return halves;
        }

        /** From the least to the greatest bit, both counted. */
        static int span(int bits) {
            int least = 0;
            int end = 0;
            for (int place = 0; place < MOST; place++) {
                if (hasBit(bits, place)) {
                    least = end == 0 ? place : least;
                    end = place + 1;
                }
            }
            return end - least;
        }
    }

    /** The cubes of a rib as bits: bit 8 u + z is set where a cube is. */
    private static final class Figure {
        private static final int MOST_CUBES = 64;
        private static final long LOWEST_LAYER = 0x0101010101010101L;
        private static final long HIGHEST_LAYER = LOWEST_LAYER << 7;

        static int partCount(long figure) {
            return partsClearOf(figure, 0);
        }

        /** The parts none of whose cubes is one of those of the other figure. */
        static int partsClearOf(long figure, long other) {
            int count = 0;
            long rest = figure;
            for (int i = 0; i < MOST_CUBES && rest != 0; i++) {
                long part = partAround(figure, rest & -rest);
                if ((part & other) == 0) {
                    count++;
                }
                rest &= ~part;
            }
            return count;
        }

        private static long partAround(long figure, long cube) {
            long part = cube;
            // Every step but the last adds a cube, so there cannot be more steps than cubes.
            for (int step = 0; step < MOST_CUBES; step++) {
                long grown = (part | neighboursOf(part)) & figure;
                if (grown == part) {
                    break;
                }
                part = grown;
            }
            return part;
        }

        private static long neighboursOf(long part) {
            // The masks keep the top of one u from running over into the bottom of the next.
            long above = (part & ~HIGHEST_LAYER) << 1;
            long below = (part & ~LOWEST_LAYER) >>> 1;
            return above | below | part << Column.MOST | part >>> Column.MOST;
        }

        /** A column of the solid as a figure's cubes at this u. */
        static long shifted(int column, int u) {
            return (long) column << Column.MOST * u;
        }

        static int columnAt(long figure, int u) {
            return (int) (figure >>> Column.MOST * u) & Column.FULL;
        }

        static int spanOfU(long figure) {
            int filled = 0;
            for (int u = 0; u < Column.MOST; u++) {
                if (columnAt(figure, u) != 0) {
                    filled |= 1 << u;
                }
            }
            return Column.span(filled);
        }

        static int spanOfZ(long figure) {
            int filled = 0;
            for (int u = 0; u < Column.MOST; u++) {
                filled |= columnAt(figure, u);
            }
            return Column.span(filled);
        }
    }

    /** The cubes, and which ribs are chosen. */
    private static final class Solid {
        private static final int FIRST_SIZE = 4;
        private static final int MOST_COLUMNS = Column.MOST * Column.MOST;
        /** A cube outweighs all crossings that can be caught, of which there are 64 at most. */
        private static final int CUBE_WORTH = 128;
        /** Less than any worth: a caught crossing is outweighed by its own cubes. */
        private static final int NO_WORTH = -1;

        private final int[] columns;
        private final int[] gains;
        int wide;
        int deep;
        int high;
        private int chosenAtX;
        private int chosenAtY;

        Solid() {
            columns = new int[MOST_COLUMNS];
            gains = new int[Column.MOST];
            wide = FIRST_SIZE;
            deep = FIRST_SIZE;
            high = FIRST_SIZE;
        }

        void beginAnew(int newWide, int newDeep, int newHigh) {
            for (int i = 0; i < columns.length; i++) {
                columns[i] = 0;
            }
            wide = newWide;
            deep = newDeep;
            high = newHigh;
            chosenAtX = 0;
            chosenAtY = 0;
        }

        boolean hasColumn(int x, int y) {
            return x >= 0 && x < wide && y >= 0 && y < deep;
        }

        boolean hasLayer(int z) {
            return z >= 0 && z < high;
        }

        boolean hasRib(int axis, int place) {
            return (axis == 0 || axis == 1) && place >= 0 && place < ribCount(axis);
        }

        int ribCount(int axis) {
            return axis == 0 ? wide : deep;
        }

        int columnAt(int x, int y) {
            return hasColumn(x, y) ? columns[Column.MOST * x + y] : 0;
        }

        /** Answers how many cubes are other than before. */
        int changeColumn(int x, int y, int layers, boolean in) {
            if (!hasColumn(x, y)) {
                return 0;
            }
            int before = columnAt(x, y);
            int after = in ? before | layers : before & ~layers;
            columns[Column.MOST * x + y] = after;
            return Integer.bitCount(before ^ after);
        }

        int cubeCount() {
            int cubes = 0;
            for (int column : columns) {
                cubes += Integer.bitCount(column);
            }
            return cubes;
        }

        int chosenBits(int axis) {
            return axis == 0 ? chosenAtX : chosenAtY;
        }

        void choose(int axis, int bits) {
            if (axis == 0) {
                chosenAtX = bits;
            } else {
                chosenAtY = bits;
            }
        }

        boolean isChosen(int axis, int place) {
            return Column.hasBit(chosenBits(axis), place);
        }

        /** Bit u is set where this rib and the one of the other axis at u are both chosen. */
        int crossingsOf(int axis, int place) {
            return isChosen(axis, place) ? chosenBits(1 - axis) : 0;
        }

        boolean wouldCatch(int x, int y) {
            return Column.runCount(columnAt(x, y)) > 1;
        }

        int ribColumn(int axis, int place, int u) {
            return axis == 0 ? columnAt(place, u) : columnAt(u, place);
        }

        long figureOf(int axis, int place) {
            long figure = 0;
            for (int u = 0; u < ribCount(1 - axis); u++) {
                figure |= Figure.shifted(ribColumn(axis, place, u), u);
            }
            return figure;
        }

        long cutOf(int axis, int place) {
            int crossings = crossingsOf(axis, place);
            long cut = 0;
            for (int u = 0; u < ribCount(1 - axis); u++) {
                int column = ribColumn(axis, place, u);
                if (Column.hasBit(crossings, u)) {
                    int upper = Column.upperHalves(column);
                    column = axis == 0 ? column & ~upper : upper;
                }
                cut |= Figure.shifted(column, u);
            }
            return cut;
        }

        /** Without cubes, if the rib is not chosen. */
        long chosenFigure(int axis, int place) {
            return isChosen(axis, place) ? figureOf(axis, place) : 0;
        }

        int loosePartsOf(int axis, int place) {
            int crossings = crossingsOf(axis, place);
            long inCrossings = 0;
            for (int u = 0; u < ribCount(1 - axis); u++) {
                if (Column.hasBit(crossings, u)) {
                    inCrossings |= Figure.shifted(Column.FULL, u);
                }
            }
            return Figure.partsClearOf(cutOf(axis, place), inCrossings);
        }

        int crossingsWithRun(int axis, int place) {
            int crossings = crossingsOf(axis, place);
            int count = 0;
            for (int u = 0; u < ribCount(1 - axis); u++) {
                if (Column.hasBit(crossings, u) && ribColumn(axis, place, u) != 0) {
                    count++;
                }
            }
            return count;
        }

        int runsInCrossings(int axis, int place) {
            int crossings = crossingsOf(axis, place);
            int count = 0;
            for (int u = 0; u < ribCount(1 - axis); u++) {
                if (Column.hasBit(crossings, u)) {
                    count += Column.runCount(ribColumn(axis, place, u));
                }
            }
            return count;
        }

        int cubesOfCuts() {
            int cubes = 0;
            for (int axis = 0; axis < 2; axis++) {
                for (int place = 0; place < ribCount(axis); place++) {
                    cubes += isChosen(axis, place) ? Long.bitCount(cutOf(axis, place)) : 0;
                }
            }
            return cubes;
        }

        int looseParts() {
            int parts = 0;
            for (int axis = 0; axis < 2; axis++) {
                for (int place = 0; place < ribCount(axis); place++) {
                    parts += isChosen(axis, place) ? loosePartsOf(axis, place) : 0;
                }
            }
            return parts;
        }

        int coveredCubes() {
            int cubes = 0;
            for (int x = 0; x < wide; x++) {
                for (int y = 0; y < deep; y++) {
                    if (isChosen(0, x) || isChosen(1, y)) {
                        cubes += Integer.bitCount(columnAt(x, y));
                    }
                }
            }
            return cubes;
        }

        /**
         * Tries every set of axis 0. Once that is fixed, each rib of axis 1 adds to cover and caught
         * the same whichever others are chosen, so that the best set of axis 1 need not be searched.
         */
        void chooseBest(int a, int b) {
            int bestAtX = 0;
            int bestAtY = 0;
            int bestWorth = NO_WORTH;
            for (int atX = 0; atX < 1 << wide; atX++) {
                if (Integer.bitCount(atX) == a) {
                    reckonGains(atX);
                    int atY = greatestGains(b);
                    int worth = worthAlone(atX) + sumOfGains(atY);
                    // Sets are tried from the least on, so that of like ones the least stays.
                    if (worth > bestWorth) {
                        bestWorth = worth;
                        bestAtX = atX;
                        bestAtY = atY;
                    }
                }
            }
            chosenAtX = bestAtX;
            chosenAtY = bestAtY;
        }

        private int worthAlone(int atX) {
            int cubes = 0;
            for (int x = 0; x < wide; x++) {
                if (Column.hasBit(atX, x)) {
                    cubes += Long.bitCount(figureOf(0, x));
                }
            }
            return CUBE_WORTH * cubes;
        }

        /** What each rib of axis 1 is worth beside these of axis 0. */
        private void reckonGains(int atX) {
            for (int y = 0; y < deep && y < gains.length; y++) {
                int gain = 0;
                for (int x = 0; x < wide; x++) {
                    if (!Column.hasBit(atX, x)) {
                        gain += CUBE_WORTH * Integer.bitCount(columnAt(x, y));
                    } else if (wouldCatch(x, y)) {
                        gain--;
                    }
                }
                gains[y] = gain;
            }
        }

        /** The ribs of axis 1 with the greatest gains; of like ones those at the lesser places. */
        private int greatestGains(int howMany) {
            int taken = 0;
            for (int i = 0; i < howMany; i++) {
                int next = -1;
                for (int y = 0; y < deep && y < gains.length; y++) {
                    if (!Column.hasBit(taken, y) && (next < 0 || gains[y] > gains[next])) {
                        next = y;
                    }
                }
                if (next >= 0) {
                    taken |= 1 << next;
                }
            }
            return taken;
        }

        private int sumOfGains(int atY) {
            int sum = 0;
            for (int y = 0; y < deep && y < gains.length; y++) {
                if (Column.hasBit(atY, y)) {
                    sum += gains[y];
                }
            }
            return sum;
        }
    }

    /** The places of the latest lay() that went, in the order in which they were laid. */
    private static final class Boards {
        static final int FACTS = 7;
        /** Where a fact of a place stands in its row: the numbers that laid() takes. */
        private static final int AXIS = 0, PLACE = 1, BOARD = 2, ACROSS = 3, UP = 4, WIDTH = 5, HEIGHT = 6;
        private static final int MOST_PLACES = 16;

        private final int[] facts;
        boolean known;
        int count;
        int boardCount;
        int fewest;

        Boards() {
            facts = new int[MOST_PLACES * FACTS];
        }

        void forget() {
            known = false;
        }

        void clear() {
            count = 0;
        }

        int fact(int i, int what) {
            return hasFact(i, what) ? facts[i * FACTS + what] : NONE;
        }

        private void note(int i, int what, int value) {
            if (hasFact(i, what)) {
                facts[i * FACTS + what] = value;
            }
        }

        private static boolean hasFact(int i, int what) {
            return i >= 0 && i < MOST_PLACES && what >= 0 && what < FACTS;
        }

        /** Ribs must come by axis and place: a new one goes behind those that are as high and as wide. */
        void add(int axis, int place, int width, int height) {
            if (count >= MOST_PLACES) {
                return;
            }
            int i = count;
            while (i > 0 && isLess(i - 1, width, height)) {
                i--;
            }
            System.arraycopy(facts, i * FACTS, facts, (i + 1) * FACTS, (count - i) * FACTS);
            note(i, AXIS, axis);
            note(i, PLACE, place);
            note(i, WIDTH, width);
            note(i, HEIGHT, height);
            count++;
        }

        private boolean isLess(int i, int width, int height) {
            int itsHeight = fact(i, HEIGHT);
            return itsHeight < height || itsHeight == height && fact(i, WIDTH) < width;
        }

        /** Every place must fit onto an empty board. */
        void layInRows(int w, int h) {
            int board = 0;
            int up = 0;
            int rowHeight = 0;
            // As if a row without height were full: so the first place begins one, like any later.
            int across = w;
            int area = 0;
            for (int i = 0; i < count; i++) {
                int width = fact(i, WIDTH);
                int height = fact(i, HEIGHT);
                if (across + width > w) {
                    across = 0;
                    up += rowHeight;
                    rowHeight = height;
                    if (up + height > h) {
                        up = 0;
                        board++;
                    }
                }
                note(i, BOARD, board);
                note(i, ACROSS, across);
                note(i, UP, up);
                across += width;
                area += width * height;
            }
            boardCount = count == 0 ? 0 : board + 1;
            fewest = quotientCutUp(area, w * h);
            known = true;
        }

        private static int quotientCutUp(int number, int divisor) {
            return divisor < 1 ? 0 : (number + divisor - 1) / divisor;
        }
    }
}

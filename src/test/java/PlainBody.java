import java.util.ArrayDeque;
import java.util.ArrayList;
import java.util.Comparator;
import java.util.List;

/** The document written a second time, cube by cube and set by set, with no care for speed. */
final class PlainBody {
    private static final int UNKNOWN = -1, OUTSIDE = -2, STATE = -3, NO = -5, NONE = -6;

    private record Run(int from, int length) {}

    private record Place(int axis, int at, int width, int height) {}

    private int[] size = {4, 4, 4};
    private boolean[][][] cubes = new boolean[4][4][4];
    private boolean[][] chosen = {new boolean[4], new boolean[4]};
    private List<int[]> laid = null;
    private int fewest = 0;

    int space(int x, int y, int z) {
        if (Math.min(x, Math.min(y, z)) < 1 || Math.max(x, Math.max(y, z)) > 8) {
            return OUTSIDE;
        }
        size = new int[] {x, y, z};
        cubes = new boolean[x][y][z];
        chosen = new boolean[][] {new boolean[x], new boolean[y]};
        laid = null;
        return x * y * z;
    }

    int box(int x, int y, int z, int wide, int deep, int high, boolean in) {
        for (int corner : new int[] {x, y, z}) {
            if (corner < -8 || corner > 8) {
                return OUTSIDE;
            }
        }
        for (int length : new int[] {wide, deep, high}) {
            if (length < 1 || length > 8) {
                return OUTSIDE;
            }
        }
        int changed = 0;
        for (int i = 0; i < wide * deep * high; i++) {
            int cx = x + i / (deep * high);
            int cy = y + i / high % deep;
            int cz = z + i % high;
            if (at(cx, cy, cz) == (in ? 0 : 1)) {
                cubes[cx][cy][cz] = in;
                changed++;
            }
        }
        laid = null;
        return changed;
    }

    int at(int x, int y, int z) {
        boolean there = x >= 0 && x < size[0] && y >= 0 && y < size[1] && z >= 0 && z < size[2];
        return !there ? UNKNOWN : cubes[x][y][z] ? 1 : 0;
    }

    int rib(int axis, int place, boolean is) {
        if (!isRib(axis, place)) {
            return UNKNOWN;
        }
        int was = chosen[axis][place] ? 1 : 0;
        chosen[axis][place] = is;
        laid = null;
        return was;
    }

    int ribs(int axis, int bits) {
        if (axis != 0 && axis != 1 || bits < 0 || bits > 255 || bits >> size[axis] != 0) {
            return OUTSIDE;
        }
        int were = bitsOf(axis);
        setBits(axis, bits);
        laid = null;
        return were;
    }

    int figure(int axis, int place, int u, int z, boolean cut) {
        if (!isRib(axis, place) || !isRib(1 - axis, u) || z < 0 || z >= size[2]) {
            return UNKNOWN;
        }
        return has(axis, place, u, z, cut) ? 1 : 0;
    }

    int about(int axis, int place, int what) {
        if (!isRib(axis, place)) {
            return UNKNOWN;
        }
        List<int[]> cells = cells(axis, place, false);
        return switch (what) {
            case 0 -> cells.size();
            case 1 -> cells(axis, place, true).size();
            case 2 -> parts(axis, place, false, false);
            case 3 -> parts(axis, place, true, false);
            case 4 -> parts(axis, place, true, true);
            case 5, 6 -> crossingCount(axis, place, what == 6);
            case 7, 8 -> span(cells, what - 7);
            default -> OUTSIDE;
        };
    }

    int caught(int i) {
        List<Integer> all = new ArrayList<>();
        for (int x = 0; x < size[0]; x++) {
            for (int y = 0; y < size[1]; y++) {
                if (chosen[0][x] && chosen[1][y] && runs(x, y).size() > 1) {
                    all.add(10 * x + y);
                }
            }
        }
        return i == -1 ? all.size() : i < 0 || i >= all.size() ? NONE : all.get(i);
    }

    int run(int x, int y, int i) {
        if (!isRib(0, x) || !isRib(1, y)) {
            return UNKNOWN;
        }
        List<Run> all = runs(x, y);
        return i == -1 ? all.size() : i < 0 || i >= all.size() ? NONE : 10 * all.get(i).from() + all.get(i).length();
    }

    int cover() {
        int count = 0;
        for (int i = 0; i < size[0] * size[1] * size[2]; i++) {
            int x = i / (size[1] * size[2]);
            int y = i / size[2] % size[1];
            if (cubes[x][y][i % size[2]] && (chosen[0][x] || chosen[1][y])) {
                count++;
            }
        }
        return count;
    }

    int best(int a, int b) {
        if (a < 0 || a > size[0] || b < 0 || b > size[1]) {
            return OUTSIDE;
        }
        int[] best = null;
        for (int atX = 0; atX < 1 << size[0]; atX++) {
            for (int atY = 0; atY < 1 << size[1]; atY++) {
                if (Integer.bitCount(atX) == a && Integer.bitCount(atY) == b) {
                    setBits(0, atX);
                    setBits(1, atY);
                    int[] tried = {-cover(), caught(-1), atX, atY};
                    best = best == null || java.util.Arrays.compare(tried, best) < 0 ? tried : best;
                }
            }
        }
        setBits(0, best[2]);
        setBits(1, best[3]);
        laid = null;
        return -best[0];
    }

    int told(int what) {
        return switch (what) {
            case 0, 1, 2 -> size[what];
            case 3 -> count();
            case 4, 5 -> bitsOf(what - 4);
            case 6 -> overChosen(1);
            case 7 -> overChosen(4);
            default -> OUTSIDE;
        };
    }

    int lay(int w, int h, int k) {
        if (w < 1 || w > 60 || h < 1 || h > 60 || k < 0 || k > 5) {
            return OUTSIDE;
        }
        List<Place> places = new ArrayList<>();
        for (int axis = 0; axis < 2; axis++) {
            for (int at = 0; at < size[axis]; at++) {
                List<int[]> cells = cells(axis, at, false);
                if (chosen[axis][at] && !cells.isEmpty()) {
                    places.add(new Place(axis, at, span(cells, 0) + k, span(cells, 1) + k));
                }
            }
        }
        for (Place place : places) {
            if (place.width() > w || place.height() > h) {
                return NO;
            }
        }
        places.sort(Comparator.comparingInt((Place p) -> -p.height()).thenComparingInt(p -> -p.width())
            .thenComparingInt(Place::axis).thenComparingInt(Place::at));
        laid = new ArrayList<>();
        int[] area = {0};
        int boards = layInto(places, w, h);
        places.forEach(p -> area[0] += p.width() * p.height());
        fewest = 0;
        while (fewest * w * h < area[0]) {
            fewest++;
        }
        return boards;
    }

    int laid(int i, int what) {
        if (laid == null) {
            return STATE;
        }
        return what < 0 || what > 6 ? OUTSIDE : i < 0 || i >= laid.size() ? NONE : laid.get(i)[what];
    }

    int least() {
        return laid == null ? STATE : fewest;
    }

    private int layInto(List<Place> places, int w, int h) {
        int boards = 0;
        int rowUp = 0;
        int rowHigh = 0;
        int used = 0;
        for (Place p : places) {
            if (boards == 0 || used + p.width() > w) {
                used = 0;
                if (boards > 0 && rowUp + rowHigh + p.height() <= h) {
                    rowUp += rowHigh;
                } else {
                    boards++;
                    rowUp = 0;
                }
                rowHigh = p.height();
            }
            laid.add(new int[] {p.axis(), p.at(), boards - 1, used, rowUp, p.width(), p.height()});
            used += p.width();
        }
        return boards;
    }

    private boolean isRib(int axis, int place) {
        return (axis == 0 || axis == 1) && place >= 0 && place < size[axis];
    }

    private int bitsOf(int axis) {
        int bits = 0;
        for (int i = 0; i < size[axis]; i++) {
            bits += chosen[axis][i] ? 1 << i : 0;
        }
        return bits;
    }

    private void setBits(int axis, int bits) {
        for (int i = 0; i < size[axis]; i++) {
            chosen[axis][i] = (bits >> i) % 2 == 1;
        }
    }

    private int count() {
        int count = 0;
        for (boolean[][] sheet : cubes) {
            for (boolean[] column : sheet) {
                for (boolean cube : column) {
                    count += cube ? 1 : 0;
                }
            }
        }
        return count;
    }

    private int overChosen(int what) {
        int sum = 0;
        for (int axis = 0; axis < 2; axis++) {
            for (int place = 0; place < size[axis]; place++) {
                sum += chosen[axis][place] ? about(axis, place, what) : 0;
            }
        }
        return sum;
    }

    private List<Run> runs(int x, int y) {
        List<Run> all = new ArrayList<>();
        int z = 0;
        while (z < size[2]) {
            int end = z;
            while (end < size[2] && cubes[x][y][end]) {
                end++;
            }
            if (end > z) {
                all.add(new Run(z, end - z));
            }
            z = end + 1;
        }
        return all;
    }

    private boolean crosses(int axis, int place, int u) {
        return chosen[axis][place] && chosen[1 - axis][u];
    }

    private boolean has(int axis, int place, int u, int z, boolean cut) {
        int x = axis == 0 ? place : u;
        int y = axis == 0 ? u : place;
        if (!cubes[x][y][z] || !cut || !crosses(axis, place, u)) {
            return cubes[x][y][z];
        }
        for (Run run : runs(x, y)) {
            if (z >= run.from() && z < run.from() + run.length()) {
                boolean upmost = z >= run.from() + run.length() - run.length() / 2;
                return upmost == (axis == 1);
            }
        }
        throw new IllegalStateException("a cube in no run");
    }

    private List<int[]> cells(int axis, int place, boolean cut) {
        List<int[]> cells = new ArrayList<>();
        for (int u = 0; u < size[1 - axis]; u++) {
            for (int z = 0; z < size[2]; z++) {
                if (has(axis, place, u, z, cut)) {
                    cells.add(new int[] {u, z});
                }
            }
        }
        return cells;
    }

    private int parts(int axis, int place, boolean cut, boolean looseOnly) {
        boolean[][] open = new boolean[10][10];
        List<int[]> cells = cells(axis, place, cut);
        cells.forEach(c -> open[c[0] + 1][c[1] + 1] = true);
        int count = 0;
        for (int[] cell : cells) {
            if (open[cell[0] + 1][cell[1] + 1]) {
                boolean held = false;
                for (int[] each : takePart(open, cell[0] + 1, cell[1] + 1)) {
                    held |= crosses(axis, place, each[0] - 1);
                }
                count += looseOnly && held ? 0 : 1;
            }
        }
        return count;
    }

    private static List<int[]> takePart(boolean[][] open, int u, int z) {
        List<int[]> part = new ArrayList<>();
        ArrayDeque<int[]> next = new ArrayDeque<>();
        next.add(new int[] {u, z});
        while (!next.isEmpty()) {
            int[] c = next.remove();
            if (open[c[0]][c[1]]) {
                open[c[0]][c[1]] = false;
                part.add(c);
                next.add(new int[] {c[0] + 1, c[1]});
                next.add(new int[] {c[0] - 1, c[1]});
                next.add(new int[] {c[0], c[1] + 1});
                next.add(new int[] {c[0], c[1] - 1});
            }
        }
        return part;
    }

    private int crossingCount(int axis, int place, boolean ofRuns) {
        int count = 0;
        for (int u = 0; u < size[1 - axis]; u++) {
            if (crosses(axis, place, u)) {
                int runs = axis == 0 ? runs(place, u).size() : runs(u, place).size();
                count += ofRuns ? runs : Math.min(runs, 1);
            }
        }
        return count;
    }

    private static int span(List<int[]> cells, int side) {
        if (cells.isEmpty()) {
            return 0;
        }
        int least = cells.stream().mapToInt(c -> c[side]).min().getAsInt();
        int greatest = cells.stream().mapToInt(c -> c[side]).max().getAsInt();
        return greatest - least + 1;
    }
}

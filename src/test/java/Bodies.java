/** Bodies that tests begin with. */
final class Bodies {
    /** The least space, the greatest, and some whose sides differ; written x, y, z. */
    static final int[][] SIZES = {{1, 1, 1}, {8, 8, 8}, {3, 2, 5}, {2, 7, 4}, {8, 1, 3}, {1, 8, 6}};

    private Bodies() {}

    static SliceBody of(int x, int y, int z) {
        SliceBody b = new SliceBody();
        b.space(x, y, z);
        return b;
    }

    static SliceBody filled(int x, int y, int z) {
        SliceBody b = of(x, y, z);
        b.box(0, 0, 0, 8, 8, 8, true);
        return b;
    }

    static void cube(SliceBody b, int x, int y, int z) {
        b.box(x, y, z, 1, 1, 1, true);
    }

    /** 3 wide, 2 deep, 5 high, with a gap, ribs of both axes, and laid. */
    static SliceBody full() {
        SliceBody b = filled(3, 2, 5);
        b.box(1, 1, 2, 1, 1, 1, false);
        b.ribs(0, 6);
        b.ribs(1, 3);
        b.lay(20, 9, 2);
        return b;
    }

    /** As full(), but told something since it was laid. */
    static SliceBody fullUnlaid() {
        SliceBody b = full();
        b.rib(0, 1, true);
        return b;
    }

    /** Full of cubes, with the ribs at 0 of both axes, and laid. */
    static SliceBody laidOut(int[] size) {
        SliceBody b = filled(size[0], size[1], size[2]);
        b.ribs(0, 1);
        b.ribs(1, 1);
        b.lay(60, 60, 1);
        return b;
    }

    /** One column of a space that is 1 wide, 1 deep, 8 high; bit z is set where a cube is. */
    static SliceBody column(int bits, boolean chosen) {
        SliceBody b = of(1, 1, 8);
        for (int z = 0; z < 8; z++) {
            b.box(0, 0, z, 1, 1, 1, (bits >> z & 1) == 1);
        }
        b.rib(0, 0, chosen);
        b.rib(1, 0, chosen);
        return b;
    }

    /** Figures of axis 1, so wide and so high, at places one behind the other; nothing crosses. */
    static SliceBody figures(int[] wide, int[] high) {
        SliceBody b = of(8, wide.length, 8);
        for (int y = 0; y < wide.length; y++) {
            b.box(0, y, 0, wide[y], 1, high[y], true);
        }
        b.ribs(1, (1 << wide.length) - 1);
        return b;
    }
}

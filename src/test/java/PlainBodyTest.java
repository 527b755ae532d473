import java.util.Random;

/** Runs of calls, the same every time, on a SliceBody and on a PlainBody: both must answer alike. */
public final class PlainBodyTest {
    private static final int RUNS = 1500;
    private static final int CALLS = 512;
    private static final int MOST_CALLS_OF_A_STEP = 1 + 17 * 7;
    private static final int[] FAR = {Integer.MIN_VALUE, -64, -2, 64, 256, Integer.MAX_VALUE};
    private static final Checks checks = new Checks();

    private final Random random;
    private final SliceBody body = new SliceBody();
    private final PlainBody plain = new PlainBody();
    private final int run;
    /** The least and greatest size of a space in this run. */
    private final int least;
    private final int greatest;
    private int calls = 0;

    private PlainBodyTest(int run) {
        this.run = run;
        random = new Random(run);
        greatest = 1 + random.nextInt(8);
        least = 1 + random.nextInt(greatest);
    }

    public static void main(String[] args) {
        for (int run = 0; run < RUNS; run++) {
            PlainBodyTest test = new PlainBodyTest(run);
            test.fillSpace();
            while (test.calls < CALLS - MOST_CALLS_OF_A_STEP) {
                test.oneStep();
            }
            while (test.calls < CALLS) {
                test.oneQuestion();
            }
        }
        checks.end("PlainBodyTest");
    }

    private void fillSpace() {
        int x = size(), y = size(), z = size();
        due("space", plain.space(x, y, z), body.space(x, y, z));
        if (random.nextBoolean()) {
            due("box", plain.box(0, 0, 0, 8, 8, 8, true), body.box(0, 0, 0, 8, 8, 8, true));
        }
    }

    private void due(String what, int want, int got) {
        calls++;
        checks.due("run " + run + ": " + what, want, got);
    }

    private int size() {
        return least + random.nextInt(greatest - least + 1);
    }

    /** Mostly from least to most, now and then just beside, seldom far off. */
    private int number(int low, int high) {
        int kind = random.nextInt(60);
        if (kind == 0) {
            return FAR[random.nextInt(FAR.length)];
        }
        return kind < 3 ? (random.nextBoolean() ? low - 1 : high + 1) : low + random.nextInt(high - low + 1);
    }

    private int place(int axis) {
        return number(0, plain.told(axis == 0 ? 0 : axis == 1 ? 1 : 2) - 1);
    }

    private void oneStep() {
        int kind = random.nextInt(100);
        if (kind < 1) {
            spaceCall();
        } else if (kind < 14) {
            boxCall();
        } else if (kind < 26) {
            ribCall();
        } else if (kind < 31) {
            bestCall();
        } else if (kind < 65) {
            solidQuestion();
        } else if (kind < 80) {
            togetherQuestion();
        } else {
            boardsCall();
        }
    }

    /** One call, so that a run can be filled up to its last. */
    private void oneQuestion() {
        if (random.nextBoolean()) {
            solidQuestion();
        } else {
            togetherQuestion();
        }
    }

    private void spaceCall() {
        int x = number(least, greatest), y = number(least, greatest), z = number(least, greatest);
        due("space(" + x + ", " + y + ", " + z + ")", plain.space(x, y, z), body.space(x, y, z));
    }

    private void boxCall() {
        int x = number(-3, 8), y = number(-3, 8), z = number(-3, 8);
        int most = random.nextInt(5) == 0 ? 8 : 3;
        int wide = number(1, most), deep = number(1, most), high = number(1, most);
        boolean in = random.nextInt(5) < 3;
        due("box", plain.box(x, y, z, wide, deep, high, in), body.box(x, y, z, wide, deep, high, in));
    }

    private void ribCall() {
        int axis = number(0, 1);
        if (random.nextInt(3) > 0) {
            int place = place(axis);
            boolean is = random.nextInt(3) > 0;
            due("rib", plain.rib(axis, place, is), body.rib(axis, place, is));
        } else {
            int bits = number(0, (1 << plain.told(axis == 0 ? 0 : 1)) - 1);
            due("ribs", plain.ribs(axis, bits), body.ribs(axis, bits));
        }
    }

    private void bestCall() {
        // The plain one tries all pairs of sets: seldom in a great space.
        if (plain.told(0) * plain.told(1) > 20 && random.nextInt(20) > 0) {
            return;
        }
        int a = number(0, plain.told(0)), b = number(0, plain.told(1));
        due("best(" + a + ", " + b + ")", plain.best(a, b), body.best(a, b));
        due("told(4) after best", plain.told(4), body.told(4));
        due("told(5) after best", plain.told(5), body.told(5));
    }

    private void solidQuestion() {
        int axis = number(0, 1);
        int place = place(axis), u = place(1 - axis), z = place(2);
        switch (random.nextInt(4)) {
            case 0 -> due("at", plain.at(place, u, z), body.at(place, u, z));
            case 1 -> {
                boolean cut = random.nextInt(3) > 0;
                due("figure", plain.figure(axis, place, u, z, cut), body.figure(axis, place, u, z, cut));
            }
            default -> {
                int what = number(0, 8);
                due("about(" + axis + ", " + place + ", " + what + ")", plain.about(axis, place, what),
                    body.about(axis, place, what));
            }
        }
    }

    private void togetherQuestion() {
        int i = number(-1, 4), what = number(0, 7);
        int x = place(0), y = place(1);
        switch (random.nextInt(4)) {
            case 0 -> due("caught(" + i + ")", plain.caught(i), body.caught(i));
            case 1 -> due("run", plain.run(x, y, i), body.run(x, y, i));
            case 2 -> due("cover", plain.cover(), body.cover());
            default -> due("told(" + what + ")", plain.told(what), body.told(what));
        }
    }

    private void boardsCall() {
        int kind = random.nextInt(8);
        if (kind < 3) {
            int most = random.nextBoolean() ? 60 : 16;
            int w = number(1, most), h = number(1, most), k = number(0, random.nextBoolean() ? 1 : 5);
            due("lay(" + w + ", " + h + ", " + k + ")", plain.lay(w, h, k), body.lay(w, h, k));
            if (random.nextInt(6) == 0) {
                allLaid();
            }
        } else if (kind < 7) {
            int i = number(0, 16), what = number(0, 6);
            due("laid(" + i + ", " + what + ")", plain.laid(i, what), body.laid(i, what));
        } else {
            due("least", plain.least(), body.least());
        }
    }

    private void allLaid() {
        for (int i = 0; i < 17 && plain.laid(i, 0) >= 0; i++) {
            for (int what = 0; what < 7; what++) {
                due("laid(" + i + ", " + what + ")", plain.laid(i, what), body.laid(i, what));
            }
        }
    }
}

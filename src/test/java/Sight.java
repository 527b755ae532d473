/** All that can be seen of an object without changing it, as one text, in some 350 calls at most. */
final class Sight {
    private Sight() {}

    static String of(SliceBody body) {
        StringBuilder seen = new StringBuilder("told");
        for (int what = 0; what < 8; what++) {
            seen.append(' ').append(body.told(what));
        }
        seen.append(" cover ").append(body.cover()).append(" runs");
        int wide = body.told(0);
        int deep = body.told(1);
        for (int x = 0; x < wide; x++) {
            for (int y = 0; y < deep; y++) {
                addUntilNegative(seen, body, x, y);
            }
        }
        seen.append(" least ").append(body.least()).append(" laid");
        for (int i = 0; i < 16 && body.laid(i, 0) >= 0; i++) {
            for (int what = 0; what < 7; what++) {
                seen.append(' ').append(body.laid(i, what));
            }
        }
        return seen.toString();
    }

    private static void addUntilNegative(StringBuilder seen, SliceBody body, int x, int y) {
        int answer = 0;
        for (int i = 0; answer >= 0 && i < 5; i++) {
            answer = body.run(x, y, i);
            seen.append(' ').append(answer);
        }
    }
}

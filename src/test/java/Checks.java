/** Counts answers that are not as due; a test's main ends with exit code 1 if there was one. */
final class Checks {
    private int right = 0;
    private int wrong = 0;

    void due(String call, long got, long want) {
        if (got == want) {
            right++;
            return;
        }
        wrong++;
        if (wrong <= 50) {
            System.out.println(call + " answered " + got + ", due is " + want);
        }
    }

    boolean anyWrong() {
        return wrong > 0;
    }

    void end() {
        System.out.println(right + " answers as due, " + wrong + " not");
        if (wrong > 0 || right == 0) {
            System.exit(1);
        }
    }

    /** Brings a text behind THE TEXT; answers how long THE TEXT is. */
    static int tell(CharcoalFromAHearth x, String text) {
        int length = x.all(0);
        for (int at = 0; at < text.length(); at += 8) {
            String piece = text.substring(at, Math.min(at + 8, text.length()));
            length = x.write(piece.length(), bytes(piece));
        }
        return length;
    }

    static long bytes(String piece) {
        long v = 0;
        for (int at = 0; at < piece.length(); at++) {
            v = v << 8 | piece.charAt(at);
        }
        return v;
    }

    /** A new object whose WOOD is told by a text. */
    static CharcoalFromAHearth withWood(String text) {
        CharcoalFromAHearth x = new CharcoalFromAHearth();
        tell(x, text);
        x.wood();
        return x;
    }
}

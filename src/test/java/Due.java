import java.util.NoSuchElementException;

/** Counts answers that are not as due, and tells texts to a BlockCross. */
final class Due {
    private final String test;
    private int wrong = 0;

    Due(String test) { this.test = test; }

    void is(int promise, String call, long got, long want) {
        if (got != want) {
            wrong++;
            System.out.println(test + ", promise " + promise + ": " + call + " answered " + got + ", due is " + want);
        }
    }

    void is(int promise, String call, boolean got, boolean want) { is(promise, call, got ? 1 : 0, want ? 1 : 0); }

    void throwsNone(int promise, BlockCross x, int order, int what) {
        try {
            int got = x.order(order, what);
            wrong++;
            System.out.println(test + ", promise " + promise + ": order(" + order + ", " + what + ") answered " + got + " and threw nothing");
        } catch (NoSuchElementException e) {
            // as due
        }
    }

    void finish() {
        System.out.println(test + (wrong == 0 ? ": all answers are as due" : ": " + wrong + " answers are not as due"));
        if (wrong != 0) System.exit(1);
    }

    /** Feeds a text behind an empty tape; the tape then holds just that. */
    static void feed(BlockCross x, String text) {
        for (int at = 0; at < text.length(); at += 20) {
            int[] w = new int[5];
            for (int i = 0; i < 20; i++) w[i / 4] = w[i / 4] << 8 | (at + i < text.length() ? text.charAt(at + i) : ';');
            x.feed(w[0], w[1], w[2], w[3], w[4]);
        }
        x.end(text.length());
    }

    static int tell(BlockCross x, String text) {
        feed(x, text);
        return x.text();
    }

    static BlockCross desk(String text) {
        BlockCross x = new BlockCross();
        tell(x, text);
        return x;
    }
}

/** Promises 17 to 22: orders come, go, are changed, runs, and acts undone. */
public final class ActTest {
    private static final Due DUE = new Due("ActTest");

    public static void main(String[] args) {
        comes();
        ever();
        withdraws();
        amends();
        mids();
        runs();
        leaks();
        undoes();
        undoRuns();
        strange();
        DUE.finish();
    }

    private static void comes() {
        BlockCross x = new BlockCross();
        int[][] bad = {{2, 1, 1, 1, 1}, {-1, 1, 1, 1, 1}, {1, 0, 1, 1, 1}, {1, 1000, 1, 1, 1}, {1, 5, 0, 1, 1}, {1, 5, 6, 1, 1},
            {1, -5, -6, 1, 1}, {1, 5, 1, -1, 1}, {1, 5, 1, 1000, 1}, {1, 5, 1, 1, -1}, {1, 5, 1, 1, 6}, {1, 5, Integer.MIN_VALUE, 1, 0}};
        for (int[] b : bad) DUE.is(17, "come " + java.util.Arrays.toString(b), x.come(b[0], b[1], b[2], b[3], b[4]), -1);
        DUE.is(17, "nothing came", x.now(0), 0);
        DUE.is(17, "no act", x.now(8), 0);
        DUE.is(17, "come", x.come(1, 999, 999, 999, 5), 0);
        DUE.is(17, "come", x.come(0, 1, 1, 0, 0), 1);
        int[] want = {1, 999, 999, 999, 5, 0, 1, 0, 0};
        for (int w = 0; w < 9; w++) DUE.is(17, "order(0," + w + ")", x.order(0, w), want[w]);
        DUE.is(17, "acts", x.now(8), 2);
        for (int i = 2; i < 10; i++) DUE.is(17, "come", x.come(0, 1, 1, 0, 0), i);
        DUE.is(17, "10 are OPEN", x.come(0, 1, 1, 0, 0), -1);
        x.withdraw(4);
        DUE.is(17, "9 are OPEN", x.come(0, 1, 1, 0, 0), 10);
        DUE.is(17, "10 are OPEN", x.come(0, 1, 1, 0, 0), -1);
        DUE.is(17, "now(1)", x.now(1), 2047 - 16);
    }

    private static void ever() {
        BlockCross x = new BlockCross();
        for (int i = 0; i < 24; i++) {
            DUE.is(17, "come", x.come(i & 1, 5, 5, 0, i % 6), i);
            if (i < 23) x.withdraw(i);
        }
        DUE.is(17, "24 ever were", x.come(0, 5, 5, 0, 0), -2);
        DUE.is(17, "not as told, and 24 were", x.come(0, 0, 5, 0, 0), -1);
        DUE.is(17, "the last by number", x.now(1), 1 << 23);
        DUE.is(17, "undo", x.undo(), 7);
        DUE.is(17, "23 ever", x.now(0), 23);
        DUE.is(17, "come", x.come(0, 7, 5, 0, 0), 23);
        DUE.is(17, "order(23,1)", x.order(23, 1), 7);
        // 10 OPEN and 24 ever: the document tells NONE first
        BlockCross y = new BlockCross();
        for (int i = 0; i < 14; i++) { y.come(0, 5, 5, 0, 0); y.withdraw(i); }
        for (int i = 14; i < 24; i++) DUE.is(17, "come", y.come(0, 5, 5, 0, 0), i);
        DUE.is(17, "both", y.come(0, 5, 5, 0, 0), -1);
    }

    private static void withdraws() {
        BlockCross x = Due.desk("mid 5;buy 10 3 5 0;sell 4 1 5 1;sell 9 1 9 2;");
        x.run();
        DUE.is(18, "what is left", x.withdraw(0), 6);
        DUE.is(18, "once more", x.withdraw(0), -1);
        DUE.is(18, "DONE", x.withdraw(1), -1);
        DUE.is(18, "none such", x.withdraw(3), -1);
        DUE.is(18, "none such", x.withdraw(-1), -1);
        DUE.is(18, "none such", x.withdraw(Integer.MAX_VALUE), -1);
        DUE.is(18, "state", x.order(0, 5), 1);
        DUE.is(18, "SIZE", x.order(0, 1), 6);
        DUE.is(18, "LEAST", x.order(0, 2), 3);
        DUE.is(18, "now(1)", x.now(1), 4);
        DUE.is(18, "acts", x.now(8), 2);
        DUE.is(18, "not WILLING", x.volume(1), -1);
    }

    private static void amends() {
        BlockCross x = Due.desk("mid 5;buy 10 3 5 0;sell 4 1 5 1;");
        DUE.is(19, "LEAST", x.amend(0, 0, 10), 3);
        DUE.is(19, "LEAST", x.order(0, 2), 10);
        DUE.is(19, "it is that", x.amend(0, 0, 10), -2);
        DUE.is(19, "LEAST", x.amend(0, 0, 1), 10);
        DUE.is(19, "LIMIT", x.amend(0, 1, 999), 5);
        DUE.is(19, "LIMIT", x.amend(0, 1, 0), 999);
        DUE.is(19, "it is that", x.amend(0, 1, 0), -2);
        DUE.is(19, "LIMIT", x.order(0, 3), 0);
        DUE.is(19, "acts", x.now(8), 4);
        int[][] bad = {{0, 0, 0}, {0, 0, 11}, {0, 0, -1}, {0, 1, -1}, {0, 1, 1000}, {0, 2, 1}, {0, -1, 1}, {2, 0, 1}, {-1, 0, 1},
            {Integer.MAX_VALUE, 0, 1}, {0, 0, Integer.MIN_VALUE}, {0, 1, Integer.MAX_VALUE}};
        for (int[] b : bad) DUE.is(19, "amend " + java.util.Arrays.toString(b), x.amend(b[0], b[1], b[2]), -1);
        DUE.is(19, "acts", x.now(8), 4);
        x.amend(0, 1, 5);
        x.run();
        DUE.is(19, "up to what is left", x.amend(0, 0, 7), -1);
        DUE.is(19, "what is left", x.amend(0, 0, 6), 1);
        DUE.is(19, "DONE", x.amend(1, 0, 1), -1);
        DUE.is(19, "DONE", x.amend(1, 1, 9), -1);
        x.withdraw(0);
        DUE.is(19, "WITHDRAWN", x.amend(0, 1, 9), -1);
    }

    private static void mids() {
        BlockCross x = new BlockCross();
        DUE.is(20, "it is that", x.mid(0), -2);
        DUE.is(20, "mid(-1)", x.mid(-1), -1);
        DUE.is(20, "mid(1000)", x.mid(1000), -1);
        DUE.is(20, "mid(MIN)", x.mid(Integer.MIN_VALUE), -1);
        DUE.is(20, "no act", x.now(8), 0);
        DUE.is(20, "mid(999)", x.mid(999), 0);
        DUE.is(20, "mid(0)", x.mid(0), 999);
        DUE.is(20, "now(2)", x.now(2), 0);
        DUE.is(20, "acts", x.now(8), 2);
    }

    private static void runs() {
        BlockCross x = Due.desk("mid 5;buy 10 8 5 0;sell 4 3 5 1;sell 5 5 5 2;sell 3 3 8 3;");
        DUE.is(21, "run()", x.run(), 9);
        int[] sizes = {1, 0, 0, 3};
        int[] leasts = {1, 0, 0, 3};
        int[] states = {0, 2, 2, 0};
        int[] filled = {9, 4, 5, 0};
        for (int o = 0; o < 4; o++) {
            DUE.is(21, "SIZE of " + o, x.order(o, 1), sizes[o]);
            DUE.is(21, "LEAST of " + o, x.order(o, 2), leasts[o]);
            DUE.is(21, "state of " + o, x.order(o, 5), states[o]);
            DUE.is(21, "FILLS of " + o, x.order(o, 7), filled[o]);
        }
        DUE.is(21, "nothing more", x.run(), 0);
        DUE.is(21, "no RUN", x.now(3), 1);
        DUE.is(21, "no act", x.now(8), 1);
        DUE.is(21, "latest", x.now(5), 9);
        x.amend(3, 1, 5);
        x.amend(3, 0, 1);
        DUE.is(21, "run()", x.run(), 1);
        int[] want = {4, 8, 5, 2, 10, 1, 5, 9, 4, 0};
        for (int w = 0; w < 10; w++) DUE.is(21, "now(" + w + ")", x.now(w), want[w]);
        DUE.is(21, "FILLS of 0", x.order(0, 7), 10);
        DUE.is(21, "0 is DONE", x.order(0, 5), 2);
        DUE.is(21, "LEAST no more than SIZE", x.order(3, 2), 1);
        // 7 of 10 with LEAST 8 does not trade; 9 of 12 with LEAST 5 leaves 3 of LEAST 3
        BlockCross y = Due.desk("mid 5;buy 12 5 5 0;sell 9 9 5 1;");
        DUE.is(21, "run()", y.run(), 9);
        DUE.is(21, "LEAST", y.order(0, 2), 3);
        DUE.is(21, "a RUN of nothing", new BlockCross().run(), 0);
    }

    private static void leaks() {
        BlockCross x = Due.desk("mid 5;buy 6 1 5 0;buy 5 1 5 1;sell 6 1 5 1;sell 5 1 5 2;sell 1 1 6 3;");
        DUE.is(21, "run()", x.run(), 11);
        // FIRM 1's seller LEAKS to 0 (its own buyer aside), its buyer to 2
        int[] want = {2 | 4, 4, 1, 1 | 2, 0};
        for (int o = 0; o < 5; o++) DUE.is(21, "LEAKS of " + o, x.order(o, 8), want[o]);
        x.come(1, 3, 1, 9, 5);
        x.mid(6);
        DUE.is(21, "run()", x.run(), 1);
        DUE.is(21, "LEAKS of 4", x.order(4, 8), 32);
        DUE.is(21, "LEAKS of 5", x.order(5, 8), 8);
        x.come(0, 2, 1, 0, 0);
        x.run();
        DUE.is(21, "LEAKS of 5 add up", x.order(5, 8), 9);
        x.undo();
        DUE.is(21, "LEAKS undone", x.order(5, 8), 8);
    }

    private static void undoes() {
        BlockCross x = Due.desk("mid 5;buy 10 8 5 0;sell 4 3 5 1;");
        DUE.is(22, "none", x.undo(), -1);
        x.mid(6);
        x.amend(0, 0, 7);
        x.amend(1, 1, 9);
        x.withdraw(1);
        x.come(0, 9, 9, 0, 3);
        DUE.is(22, "now(8)", x.now(8), 5);
        DUE.is(22, "come", x.undo(), 4);
        DUE.is(22, "gone", x.now(0), 2);
        DUE.throwsNone(22, x, 2, 0);
        DUE.is(22, "withdraw", x.undo(), 3);
        DUE.is(22, "OPEN", x.order(1, 5), 0);
        DUE.is(22, "LIMIT", x.undo(), 2);
        DUE.is(22, "LIMIT", x.order(1, 3), 5);
        DUE.is(22, "LEAST", x.undo(), 1);
        DUE.is(22, "LEAST", x.order(0, 2), 8);
        DUE.is(22, "mid", x.undo(), 0);
        DUE.is(22, "now(2)", x.now(2), 5);
        DUE.is(22, "none", x.undo(), -1);
        for (int v = 10; v < 22; v++) x.mid(v);
        DUE.is(22, "8 at most", x.now(8), 8);
        for (int left = 7; left >= 0; left--) {
            DUE.is(22, "undo()", x.undo(), left);
            DUE.is(22, "now(2)", x.now(2), 13 + left);
        }
        DUE.is(22, "none more", x.undo(), -1);
        DUE.is(22, "now(2)", x.now(2), 13);
        x.mid(50);
        DUE.is(22, "refused is no act", x.mid(50), -2);
        x.amend(0, 0, 8);
        x.withdraw(7);
        x.run();
        x.come(3, 3, 3, 3, 3);
        DUE.is(22, "now(8)", x.now(8), 1);
        DUE.is(22, "the tape is no act", x.feed(1, 1, 1, 1, 1), 20);
        DUE.is(22, "undo()", x.undo(), 0);
        DUE.is(22, "the tape stays", x.now(9), 20);
    }

    private static void undoRuns() {
        BlockCross x = Due.desk("mid 5;buy 10 8 5 0;sell 4 3 5 1;sell 5 5 5 2;sell 3 1 5 3;");
        DUE.is(22, "run()", x.run(), 10);
        x.come(1, 9, 1, 5, 4);
        DUE.is(22, "run()", x.run(), 2);
        DUE.is(22, "undo()", x.undo(), 2);
        int[] want = {5, 16 | 8, 5, 1, 10, 10, 5, 15, 2, 0};
        for (int w = 0; w < 10; w++) DUE.is(22, "now(" + w + ")", x.now(w), want[w]);
        DUE.is(22, "run() as it was", x.run(), 2);
        x.undo();
        x.undo();
        DUE.is(22, "undo()", x.undo(), 0);
        int[] first = {4, 15, 5, 0, 0, -1, -1, 0, 0, 0};
        for (int w = 0; w < 10; w++) DUE.is(22, "now(" + w + ")", x.now(w), first[w]);
        int[] sizes = {10, 4, 5, 3};
        int[] leasts = {8, 3, 5, 1};
        for (int o = 0; o < 4; o++) {
            DUE.is(22, "SIZE", x.order(o, 1), sizes[o]);
            DUE.is(22, "LEAST", x.order(o, 2), leasts[o]);
            DUE.is(22, "state", x.order(o, 5), 0);
            DUE.is(22, "FILLS", x.order(o, 7), 0);
            DUE.is(22, "LEAKS", x.order(o, 8), 0);
        }
    }

    /** No arguments make anything but order() throw, and it only what it says. */
    private static void strange() {
        int[] v = {Integer.MIN_VALUE, -1000, -33, -32, -2, -1, 0, 1, 2, 5, 6, 9, 10, 23, 24, 25, 31, 32, 33, 63, 64, 399, 400, 401, 439,
            440, 441, 999, 1000, 65536, 1 << 24, Integer.MAX_VALUE - 1, Integer.MAX_VALUE};
        BlockCross x = Due.desk("mid 5;buy 10 1 5 0;sell 4 3 5 1;sell 5 5 5 2;sell 3 1 5 3;buy 7 2 6 4;sell 8 2 0 0;buy 9 9 9 5;");
        for (int a : v) {
            for (int b : v) {
                try { x.order(a, b); } catch (java.util.NoSuchElementException e) { /* as due */ }
                x.chosen(a, b);
                x.were(a, b);
                x.amend(a, b, a);
                x.amend(a, 0, b);
                x.amend(a, 1, b);
                x.come(1, a, b, 5, 5);
                x.come(0, 9, 3, a, b);
                x.come(a, 9, 3, b, 3);
                x.feed(a, b, a, b, a);
                x.end(b);
            }
            x.now(a); x.rank(a); x.fill(a); x.why(a); x.volume(a); x.worth(a); x.reach(a); x.best();
            x.mid(a); x.run(); x.undo(); x.withdraw(a); x.end(a); x.fault(); x.undo();
            if (a % 2 == 0) x.text();
        }
    }
}

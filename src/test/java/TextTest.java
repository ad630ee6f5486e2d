/** Promises 1 to 5: a new object, the tape, and what a text is. */
public final class TextTest {
    private static final Due DUE = new Due("TextTest");

    public static void main(String[] args) {
        fresh();
        tape();
        goodTexts();
        faults();
        longTexts();
        staysOrGoes();
        DUE.finish();
    }

    private static void fresh() {
        BlockCross x = new BlockCross();
        int[] want = {0, 0, 0, 0, 0, -1, -1, 0, 0, 0};
        for (int w = 0; w < 10; w++) DUE.is(1, "now(" + w + ")", x.now(w), want[w]);
        DUE.is(1, "fault()", x.fault(), 0);
        DUE.is(1, "undo()", x.undo(), -1);
        DUE.is(1, "text()", x.text(), 0);
        DUE.throwsNone(1, x, 0, 0);
    }

    private static void tape() {
        BlockCross x = new BlockCross();
        for (int n = 20; n <= 440; n += 20) DUE.is(2, "feed", x.feed(0, 0, 0, 0, 0), n);
        DUE.is(2, "feed past 440", x.feed(0, 0, 0, 0, 0), -1);
        DUE.is(2, "now(9)", x.now(9), 440);
        DUE.is(3, "end(441)", x.end(441), false);
        DUE.is(3, "end(-1)", x.end(-1), false);
        DUE.is(3, "end(MIN)", x.end(Integer.MIN_VALUE), false);
        DUE.is(3, "end(MAX)", x.end(Integer.MAX_VALUE), false);
        DUE.is(3, "now(9)", x.now(9), 440);
        DUE.is(3, "end(440)", x.end(440), true);
        DUE.is(3, "end(421)", x.end(421), true);
        DUE.is(2, "feed, room for 19", x.feed(1, 2, 3, 4, 5), -1);
        DUE.is(2, "now(9)", x.now(9), 421);
        DUE.is(3, "end(420)", x.end(420), true);
        DUE.is(2, "feed, room for 20", x.feed(1, 2, 3, 4, 5), 440);
        DUE.is(3, "end(0)", x.end(0), true);
        DUE.is(3, "end(1) of nothing", x.end(1), false);
        DUE.is(3, "end(0) of nothing", x.end(0), true);
        // 'mid ' '7;' then signs above 127 that are no TOKEN: the highest byte of a number comes first
        x.feed(0x6d696420, 0x373b20ff, 0, 0, 0);
        x.end(6);
        DUE.is(2, "text()", x.text(), 1);
        DUE.is(2, "now(2)", x.now(2), 7);
        x.feed(0x6d696420, 0x373b0aff, -1, -1, -1);
        DUE.is(2, "text()", x.text(), -8);
        DUE.is(2, "fault()", x.fault(), 1);
    }

    private static void good(String text, int lines) {
        BlockCross x = new BlockCross();
        DUE.is(4, "text '" + text + "'", Due.tell(x, text), lines);
        DUE.is(5, "fault of '" + text + "'", x.fault(), 0);
        DUE.is(4, "ORDERS of '" + text + "'", x.now(0), Math.max(0, lines - 1));
        DUE.is(4, "tape behind '" + text + "'", x.now(9), 0);
    }

    private static void goodTexts() {
        good("", 0);
        good(" \n ", 0);
        good("mid 0;", 1);
        good("mid 999;", 1);
        good("mid 007;", 1);
        good("\nmid\n5 ; ", 1);
        good("mid 5;buy 1 1 0 0;sell 999 999 999 5;", 3);
        good("mid 5;buy 010 010 001 005;", 2);
        good("mid 5;\n buy\n10 3  7 2 \n;\n", 2);
        StringBuilder ten = new StringBuilder("mid 1;");
        for (int i = 0; i < 10; i++) ten.append("sell 9 1 1 1;");
        good(ten.toString(), 11);
        BlockCross x = Due.desk("mid 37;sell 20 7 431 4;buy 999 1 0 0;");
        int[][] want = {{0, 20, 7, 431, 4, 0, 0, 0, 0}, {1, 999, 1, 0, 0, 0, 0, 0, 0}};
        for (int o = 0; o < 2; o++) for (int w = 0; w < 9; w++) DUE.is(4, "order(" + o + "," + w + ")", x.order(o, w), want[o][w]);
        DUE.is(4, "now(2)", x.now(2), 37);
    }

    private static void bad(String text, int place, int kind) {
        BlockCross x = new BlockCross();
        DUE.is(4, "text '" + text + "'", Due.tell(x, text), -1 - place);
        DUE.is(5, "fault of '" + text + "'", x.fault(), kind);
        DUE.is(4, "tape behind '" + text + "'", x.now(9), 0);
        DUE.is(4, "ORDERS behind '" + text + "'", x.now(0), 0);
    }

    private static void faults() {
        // 1: no TOKEN
        bad("mid5;", 0, 1);
        bad("mid 1000;", 4, 1);
        bad("mid 0001;", 4, 1);
        bad("mid 5x;", 4, 1);
        bad("mid x5;", 4, 1);
        bad("MID 5;", 0, 1);
        bad("mid\t5;", 3, 1);
        bad("mid 5,", 5, 1);
        bad("mid 5;\r", 6, 1);
        bad("mid -5;", 4, 1);
        bad("mid `;", 4, 1);
        bad("mid {;", 4, 1);
        bad("mid /;", 4, 1);
        bad("mid :;", 4, 1);
        bad("mid 5;buy10 1 1 1;", 6, 1);
        bad("mid 5;buy 1 1 1 1" + (char) 233, 17, 1);
        // 1: one that can't come
        bad(";", 0, 1);
        bad("5;", 0, 1);
        bad("buy 1 1 1 1;", 0, 1);
        bad("midd 5;", 0, 1);
        bad("mi 5;", 0, 1);
        bad("mid ;", 4, 1);
        bad("mid mid;", 4, 1);
        bad("mid 5 5;", 6, 1);
        bad("mid 5;;", 6, 1);
        bad("mid 5;mid 6;", 6, 1);
        bad("mid 5;bux 1 1 1 1;", 6, 1);
        bad("mid 5;sel 1 1 1 1;", 6, 1);
        bad("mid 5;buys 1 1 1 1;", 6, 1);
        bad("mid 5;buyz 1 1 1 1;", 6, 1);
        bad("mid 5;buya 1 1 1 1;", 6, 1);
        bad("mid ,;", 4, 1);
        bad("mid 5;buy 1 1 1;", 15, 1);
        bad("mid 5;buy 1 1 1 1 1;", 18, 1);
        bad("mid 5;buy buy 1 1 1;", 10, 1);
        // 1: the end
        bad("mid", 3, 1);
        bad("mid 5", 5, 1);
        bad("mid 5  \n", 8, 1);
        bad("mid 5;buy", 9, 1);
        bad("mid 5;buy 1 1 1 1", 17, 1);
        // 2: a NUMBER not as told
        bad("mid 5;buy 0 1 1 1;", 10, 2);
        bad("mid 5;buy 000 1 1 1;", 10, 2);
        bad("mid 5;buy 5 0 1 1;", 12, 2);
        bad("mid 5;buy 5 6 1 1;", 12, 2);
        bad("mid 5;sell 5 5 1 6;", 17, 2);
        bad("mid 5;sell 5 5 1 999", 17, 2);
        bad("mid 5;sell 5 6 1 9;", 13, 2);
        bad("mid 5;sell 5 6666 1 9;", 13, 1);
        // 3: an 11th ORDER
        StringBuilder ten = new StringBuilder("mid 1;");
        for (int i = 0; i < 10; i++) ten.append("buy 9 1 1 1;");
        bad(ten + "buy 9 1 1 1;", 126, 3);
        bad(ten + " sell 0", 127, 3);
        bad(ten + "buy", 126, 3);
        bad(ten + "mid", 126, 1);
        bad(ten + "buy9", 126, 1);
        bad(ten + ";", 126, 1);
    }

    private static String filled(String head, int to, String tail) {
        StringBuilder b = new StringBuilder(head);
        while (b.length() < to) b.append(b.length() % 7 == 0 ? '\n' : ' ');
        return b.append(tail).toString();
    }

    private static void longTexts() {
        good(filled("mid 5;", 400, ""), 1);
        good(filled("mid 5", 399, ";"), 1);
        good(filled("", 400, ""), 0);
        bad(filled("mid 5;", 401, ""), 400, 1);
        bad(filled("mid 5", 400, ";"), 400, 1);
        bad(filled("", 401, ""), 400, 1);
        bad(filled("mid 5;", 440, ""), 400, 1);
        bad(filled("mid", 400, ""), 400, 1);
        bad(filled("mid", 405, ""), 400, 1);
        // TOKENS that begin ahead of the 400th byte are read whole
        bad(filled("mid 5;", 399, "buy 1 1 1 1;"), 400, 1);
        bad(filled("mid 5;", 399, "bux 1 1 1 1;"), 399, 1);
        bad(filled("mid 5;", 399, "b"), 399, 1);
        bad(filled("mid 5;", 400, "bux"), 400, 1);
        bad(filled("mid", 399, "12;"), 400, 1);
        bad(filled("mid", 399, "123;"), 400, 1);
        bad(filled("mid", 399, "1234;"), 399, 1);
        bad(filled("mid 5;buy 5", 399, "10"), 399, 2);
        bad(filled("mid 5;buy 50", 399, "10"), 400, 1);
        bad(filled("mid 5;", 399, "sell123"), 399, 1);
        bad(filled("mid 5;x", 420, ""), 6, 1);
        StringBuilder ten = new StringBuilder("mid 1;");
        for (int i = 0; i < 10; i++) ten.append("buy 9 1 1 1;");
        bad(filled(ten.toString(), 398, "sell 1"), 398, 3);
        bad(filled(ten.toString(), 400, "sell 1"), 400, 1);
    }

    private static void staysOrGoes() {
        BlockCross x = Due.desk("mid 5;buy 9 1 5 1;sell 9 1 5 2;");
        x.run();
        x.come(1, 5, 5, 5, 5);
        DUE.is(4, "text", Due.tell(x, "mid 6;buy 1 2 3 4;"), -13);
        DUE.is(5, "fault()", x.fault(), 2);
        int[] stay = {3, 4, 5, 1, 9, 9, 5, 3, 2, 0};
        for (int w = 0; w < 10; w++) DUE.is(4, "with a FAULT all stays: now(" + w + ")", x.now(w), stay[w]);
        DUE.is(5, "fault() once more", x.fault(), 2);
        DUE.is(4, "text", Due.tell(x, "mid 6;buy 2 1 3 4;"), 2);
        DUE.is(5, "fault()", x.fault(), 0);
        int[] anew = {1, 1, 6, 0, 0, -1, -1, 0, 0, 0};
        for (int w = 0; w < 10; w++) DUE.is(4, "a new TEXT: now(" + w + ")", x.now(w), anew[w]);
        DUE.is(4, "undo()", x.undo(), -1);
        DUE.is(4, "FILLS anew", x.order(0, 7), 0);
        DUE.is(4, "LEAKS anew", x.order(0, 8), 0);
        x.mid(7);
        DUE.is(4, "an empty text", x.text(), 0);
        int[] first = {0, 0, 0, 0, 0, -1, -1, 0, 0, 0};
        for (int w = 0; w < 10; w++) DUE.is(4, "as at first: now(" + w + ")", x.now(w), first[w]);
    }
}

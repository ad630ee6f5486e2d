/** Boundary cases of promises 17 to 22: ORDERS that come, go, are changed, RUNS, LEAKS, and acts undone. */
public final class EdgeActTest {
    private static final Edges EDGES = new Edges("EdgeActTest", 17, 22);
    private static final String PAIR = "tell mid 5;buy 10 4 5 0;sell 6 3 5 1;";
    private static final String NINE_MIDS = "mid 1, mid 2, mid 3, mid 4, mid 5, mid 6, mid 7, mid 8, mid 9";

    public static void main(String[] args) {
        comeSideAndSize();
        comeLeastLimitFirm();
        comeTen();
        comeEver();
        comeAct();
        withdraws();
        amendLeast();
        amendLimit();
        amendNone();
        mids();
        runSizes();
        runLeasts();
        runNothing();
        leaksTo();
        leaksNotTo();
        undoKinds();
        undoRun();
        undoEight();
        undoRefused();
        undoNone();
        EDGES.finish();
    }

    private static void edge(int promise, String name, String... steps) { EDGES.edge(promise, name, steps); }

    /** Calls by which the ORDERS from one number up to another have come and gone. */
    private static String gone(int from, int to) {
        StringBuilder b = new StringBuilder("now 0 = ").append(from);
        for (int i = from; i < to; i++) b.append(", come 0 1 1 0 0 = ").append(i).append(", withdraw ").append(i);
        return b.toString();
    }

    private static void comeSideAndSize() {
        edge(17, "side 0, a seller", "come 0 9 1 4 3 = 0, order 0 0 = 0");
        edge(17, "side 1, a buyer", "come 1 9 1 4 3 = 0, order 0 0 = 1");
        edge(17, "side 2", "! come 2 9 1 4 3 = -1");
        edge(17, "side -1", "! come -1 9 1 4 3 = -1");
        edge(17, "side MIN", "! come MIN 9 1 4 3 = -1");
        edge(17, "side MAX", "! come MAX 9 1 4 3 = -1");
        edge(17, "SIZE 1", "come 1 1 1 4 3 = 0, order 0 1 = 1");
        edge(17, "SIZE 999", "come 1 999 1 4 3 = 0, order 0 1 = 999");
        edge(17, "SIZE 0", "! come 1 0 1 4 3 = -1");
        edge(17, "SIZE 0 and LEAST 0", "! come 1 0 0 4 3 = -1");
        edge(17, "SIZE 1000", "! come 1 1000 1 4 3 = -1");
        edge(17, "SIZE -1", "! come 1 -1 1 4 3 = -1");
        edge(17, "SIZE and LEAST below 0", "! come 1 -1 -2 4 3 = -1");
        edge(17, "SIZE MIN", "! come 1 MIN MIN 4 3 = -1");
        edge(17, "SIZE MAX", "! come 1 MAX 1 4 3 = -1");
    }

    private static void comeLeastLimitFirm() {
        edge(17, "LEAST 1", "come 1 9 1 4 3 = 0, order 0 2 = 1");
        edge(17, "LEAST as SIZE", "come 1 9 9 4 3 = 0, order 0 2 = 9");
        edge(17, "LEAST as SIZE 999", "come 1 999 999 4 3 = 0, order 0 2 = 999");
        edge(17, "LEAST 0", "! come 1 9 0 4 3 = -1");
        edge(17, "LEAST one above SIZE", "! come 1 9 10 4 3 = -1");
        edge(17, "LEAST 2 of SIZE 1", "! come 1 1 2 4 3 = -1");
        edge(17, "LEAST 1000 of SIZE 999", "! come 1 999 1000 4 3 = -1");
        edge(17, "LEAST -1", "! come 1 9 -1 4 3 = -1");
        edge(17, "LEAST MIN", "! come 1 9 MIN 4 3 = -1");
        edge(17, "LEAST MAX", "! come 1 9 MAX 4 3 = -1");
        edge(17, "LIMIT 0", "come 1 9 1 0 3 = 0, order 0 3 = 0");
        edge(17, "LIMIT 999", "come 1 9 1 999 3 = 0, order 0 3 = 999");
        edge(17, "LIMIT -1", "! come 1 9 1 -1 3 = -1");
        edge(17, "LIMIT 1000", "! come 1 9 1 1000 3 = -1");
        edge(17, "LIMIT MIN", "! come 1 9 1 MIN 3 = -1");
        edge(17, "LIMIT MAX", "! come 1 9 1 MAX 3 = -1");
        edge(17, "FIRM 0", "come 1 9 1 4 0 = 0, order 0 4 = 0");
        edge(17, "FIRM 5", "come 1 9 1 4 5 = 0, order 0 4 = 5");
        edge(17, "FIRM -1", "! come 1 9 1 4 -1 = -1");
        edge(17, "FIRM 6", "! come 1 9 1 4 6 = -1");
        edge(17, "FIRM MIN", "! come 1 9 1 4 MIN = -1");
        edge(17, "FIRM MAX", "! come 1 9 1 4 MAX = -1");
    }

    private static void comeTen() {
        String ten = "10* come 0 1 1 0 0";
        String nine = "tell mid 1;" + "buy 9 1 1 1;".repeat(9);
        edge(17, "the tenth that is OPEN", "9* come 0 1 1 0 0, come 0 1 1 0 0 = 9, now 1 = 1023");
        edge(17, "10 are OPEN", ten, "! come 0 1 1 0 0 = -1");
        edge(17, "10 are OPEN by a text", nine, "come 0 1 1 0 0 = 9, ! come 0 1 1 0 0 = -1");
        edge(17, "10 are OPEN, none of them WILLING", "tell mid 500;", "10* come 1 1 1 0 0, come 0 1 1 0 0 = -1, now 0 = 10");
        edge(17, "one of ten is WITHDRAWN", ten, "withdraw 4, come 0 1 1 0 0 = 10, come 0 1 1 0 0 = -1");
        edge(17, "one of ten is DONE", nine, "come 0 5 1 0 0 = 9, run = 5, order 9 5 = 2, come 0 1 1 0 0 = 10, come 0 1 1 0 0 = -1");
        edge(17, "one of ten is undone", ten, "undo, come 0 1 1 0 0 = 9, come 0 1 1 0 0 = -1");
        edge(17, "10 are OPEN, since a withdraw() is undone", ten, "withdraw 4, undo, come 0 1 1 0 0 = -1");
        edge(17, "not as told, and 10 are OPEN", ten, "! come 0 0 1 0 0 = -1");
    }

    private static void comeEver() {
        edge(17, "the 24th ever", gone(0, 23), "come 0 1 1 0 0 = 23, order 23 1 = 1");
        edge(17, "24 ever were", gone(0, 24), "come 0 1 1 0 0 = -2, now 0 = 24, now 1 = 0, now 8 = 8");
        edge(17, "24 ever were, it is no act", gone(0, 24), "come 0 1 1 0 0 = -2, undo = 7, now 1 = 8388608");
        edge(17, "24 ever were, and it is not as told", gone(0, 24), "come 0 0 1 0 0 = -1");
        edge(17, "24 ever were, and its side is not as told", gone(0, 24), "come 2 1 1 0 0 = -1");
        edge(17, "24 ever were, 10 of them OPEN", gone(0, 14), "10* come 0 1 1 0 0, now 0 = 24, come 0 1 1 0 0 = -1");
        edge(17, "24 ever were, 9 of them OPEN", gone(0, 14), "10* come 0 1 1 0 0, withdraw 20, come 0 1 1 0 0 = -2");
        edge(17, "24 ever, ten of them by a text", "tell mid 1;" + "buy 9 1 1 1;".repeat(10), "withdraw 0", gone(10, 24), "come 0 1 1 0 0 = -2");
        edge(17, "the 24th is undone", gone(0, 23), "come 0 1 1 0 0 = 23, undo, come 0 2 1 0 0 = 23, order 23 1 = 2");
    }

    private static void comeAct() {
        edge(17, "its number is that of all ever", PAIR, "withdraw 1, come 0 9 1 4 3 = 2");
        edge(17, "it is OPEN, without FILLS and LEAKS", "come 0 9 2 3 4, order 0 5 = 0, order 0 7 = 0, order 0 8 = 0");
        edge(17, "it has nothing of one undone that had its number", PAIR, "come 1 5 2 5 3 = 2, withdraw 0, run = 5, order 2 8 = 2, undo, undo, undo",
            "come 0 7 6 4 2 = 2, order 2 0 = 0, order 2 1 = 7, order 2 2 = 6, order 2 3 = 4, order 2 4 = 2, order 2 5 = 0, order 2 7 = 0, order 2 8 = 0");
        edge(17, "it has nothing of one WITHDRAWN and undone", PAIR, "come 1 5 2 5 3, withdraw 2, undo, undo, come 1 5 2 5 3 = 2, order 2 5 = 0");
        edge(17, "it has nothing of an ORDER of an earlier TEXT", PAIR, "run = 6, withdraw 0", "tell mid 5;", "come 1 5 2 5 3 = 0, come 0 4 2 5 2 = 1",
            "order 0 5 = 0, order 0 7 = 0, order 0 8 = 0, order 1 5 = 0, order 1 7 = 0, order 1 8 = 0");
        edge(17, "it is an act", "come 0 9 2 3 4, now 8 = 1");
        edge(17, "it trades at once", PAIR, "come 0 4 1 5 1 = 2, run = 10, order 2 7 = 4");
    }

    private static void withdraws() {
        edge(18, "its SIZE", PAIR, "withdraw 0 = 10, order 0 5 = 1");
        edge(18, "its SIZE 1", "come 0 1 1 0 0, withdraw 0 = 1");
        edge(18, "its SIZE 999", "come 0 999 1 0 0, withdraw 0 = 999");
        edge(18, "its SIZE is what is left", PAIR, "run = 6, withdraw 0 = 4, order 0 1 = 4");
        edge(18, "one not WILLING", PAIR, "mid 6, withdraw 0 = 10");
        edge(18, "it alone", PAIR, "withdraw 0, order 1 5 = 0, now 1 = 2");
        edge(18, "its FILLS and LEAKS stay", PAIR, "run, withdraw 0, order 0 7 = 6, order 0 8 = 2");
        edge(18, "it is an act", PAIR, "withdraw 0, now 8 = 1");
        edge(18, "NONE: WITHDRAWN", PAIR, "withdraw 0, ! withdraw 0 = -1");
        edge(18, "NONE: DONE", PAIR, "run, ! withdraw 1 = -1");
        edge(18, "NONE: none at all", "! withdraw 0 = -1");
        edge(18, "NONE: behind the last", PAIR, "! withdraw 2 = -1");
        edge(18, "NONE: two behind the last", PAIR, "! withdraw 3 = -1");
        edge(18, "NONE: 23 of two", PAIR, "! withdraw 23 = -1");
        edge(18, "NONE: 24 of two", PAIR, "! withdraw 24 = -1");
        edge(18, "NONE: -1", PAIR, "! withdraw -1 = -1");
        edge(18, "NONE: MIN", PAIR, "! withdraw MIN = -1");
        edge(18, "NONE: MAX", PAIR, "! withdraw MAX = -1");
        edge(18, "NONE: 24 of 24", gone(0, 24), "withdraw 24 = -1");
        edge(18, "the one of number 23", gone(0, 23), "come 0 7 1 0 0, withdraw 23 = 7, now 1 = 0");
    }

    private static void amendLeast() {
        edge(19, "LEAST 1", PAIR, "amend 0 0 1 = 4, order 0 2 = 1");
        edge(19, "LEAST as SIZE", PAIR, "amend 0 0 10 = 4, order 0 2 = 10");
        edge(19, "LEAST 0", PAIR, "! amend 0 0 0 = -1");
        edge(19, "LEAST one above SIZE", PAIR, "! amend 0 0 11 = -1");
        edge(19, "LEAST -1", PAIR, "! amend 0 0 -1 = -1");
        edge(19, "LEAST MIN", PAIR, "! amend 0 0 MIN = -1");
        edge(19, "LEAST MAX", PAIR, "! amend 0 0 MAX = -1");
        edge(19, "LEAST: it is that", PAIR, "! amend 0 0 4 = -2");
        edge(19, "LEAST: it is that by now", PAIR, "amend 0 0 5, ! amend 0 0 5 = -2");
        edge(19, "LEAST: it is that no more", PAIR, "amend 0 0 5, amend 0 0 4 = 5");
        edge(19, "LEAST up to what is left", PAIR, "amend 0 0 1, run = 6, amend 0 0 4 = 1, order 0 2 = 4");
        edge(19, "LEAST one above what is left", PAIR, "amend 0 0 1, run = 6, ! amend 0 0 5 = -1");
        edge(19, "LEAST of SIZE 1", "come 0 1 1 0 0, amend 0 0 1 = -2, amend 0 0 2 = -1");
        edge(19, "LEAST 999 of SIZE 999", "come 0 999 1 0 0, amend 0 0 999 = 1, amend 0 0 1000 = -1");
        edge(19, "LEAST of it alone, LIMIT stays", PAIR, "amend 0 0 7, order 0 3 = 5, order 1 2 = 3");
    }

    private static void amendLimit() {
        edge(19, "LIMIT 0", PAIR, "amend 0 1 0 = 5, order 0 3 = 0");
        edge(19, "LIMIT 999", PAIR, "amend 0 1 999 = 5, order 0 3 = 999");
        edge(19, "LIMIT -1", PAIR, "! amend 0 1 -1 = -1");
        edge(19, "LIMIT 1000", PAIR, "! amend 0 1 1000 = -1");
        edge(19, "LIMIT MIN", PAIR, "! amend 0 1 MIN = -1");
        edge(19, "LIMIT MAX", PAIR, "! amend 0 1 MAX = -1");
        edge(19, "LIMIT: it is that", PAIR, "! amend 0 1 5 = -2");
        edge(19, "LIMIT: it is 0 already", "come 0 1 1 0 0, ! amend 0 1 0 = -2");
        edge(19, "LIMIT: it is 999 already", "come 0 1 1 999 0, ! amend 0 1 999 = -2");
        edge(19, "LIMIT was 0: not NONE, not -2", "come 0 1 1 0 0, amend 0 1 9 = 0");
        edge(19, "LIMIT above SIZE is no matter", "come 0 1 1 0 0, amend 0 1 2 = 0");
        edge(19, "LIMIT of it alone, LEAST stays", PAIR, "amend 0 1 7, order 0 2 = 4, order 1 3 = 5");
        edge(19, "LIMIT makes it WILLING or not", PAIR, "amend 0 1 4, order 0 6 = 0, run = 0, amend 0 1 6, order 0 6 = 1, run = 6");
    }

    private static void amendNone() {
        edge(19, "what -1", PAIR, "! amend 0 -1 1 = -1");
        edge(19, "what 2", PAIR, "! amend 0 2 1 = -1");
        edge(19, "what MIN", PAIR, "! amend 0 MIN 1 = -1");
        edge(19, "what MAX", PAIR, "! amend 0 MAX 1 = -1");
        edge(19, "NONE: none at all", "! amend 0 0 1 = -1, ! amend 0 1 1 = -1");
        edge(19, "NONE: behind the last", PAIR, "! amend 2 0 1 = -1, ! amend 2 1 1 = -1");
        edge(19, "NONE: two behind the last", PAIR, "! amend 3 0 1 = -1, ! amend 3 1 1 = -1");
        edge(19, "NONE: 23 of two", PAIR, "! amend 23 0 1 = -1, ! amend 23 1 1 = -1");
        edge(19, "NONE: 24 of two", PAIR, "! amend 24 0 1 = -1, ! amend 24 1 1 = -1");
        edge(19, "NONE: -1", PAIR, "! amend -1 0 1 = -1, ! amend -1 1 1 = -1");
        edge(19, "NONE: MIN", PAIR, "! amend MIN 0 1 = -1");
        edge(19, "NONE: MAX", PAIR, "! amend MAX 0 1 = -1");
        edge(19, "NONE: 24 of 24", gone(0, 24), "amend 24 0 1 = -1, amend 24 1 1 = -1");
        edge(19, "NONE: WITHDRAWN, its LEAST", PAIR, "withdraw 0, ! amend 0 0 1 = -1");
        edge(19, "NONE: WITHDRAWN, its LIMIT", PAIR, "withdraw 0, ! amend 0 1 1 = -1");
        edge(19, "NONE ahead of -2: WITHDRAWN, and it is that", PAIR, "withdraw 0, amend 0 0 4 = -1, amend 0 1 5 = -1");
        edge(19, "NONE: DONE, its LEAST", PAIR, "run, ! amend 1 0 1 = -1, ! amend 1 0 0 = -1");
        edge(19, "NONE: DONE, its LIMIT", PAIR, "run, ! amend 1 1 1 = -1, ! amend 1 1 5 = -1");
        edge(19, "it is an act", PAIR, "amend 0 0 1, amend 0 1 1, now 8 = 2");
    }

    private static void mids() {
        edge(20, "0", "mid 7 = 0, mid 0 = 7, now 2 = 0");
        edge(20, "999", "mid 999 = 0, now 2 = 999");
        edge(20, "998 behind 999", "mid 999, mid 998 = 999");
        edge(20, "-1", PAIR, "! mid -1 = -1");
        edge(20, "1000", PAIR, "! mid 1000 = -1");
        edge(20, "MIN", PAIR, "! mid MIN = -1");
        edge(20, "MAX", PAIR, "! mid MAX = -1");
        edge(20, "it is that", PAIR, "! mid 5 = -2");
        edge(20, "it is 0 at first", "! mid 0 = -2");
        edge(20, "it is 999 already", "tell mid 999;", "! mid 999 = -2");
        edge(20, "it is that by now", "mid 3, ! mid 3 = -2");
        edge(20, "it was 0: not -2", "mid 1 = 0");
        edge(20, "it is an act", "mid 3, now 8 = 1");
        edge(20, "ORDERS become WILLING or not", PAIR, "mid 6, order 0 6 = 0, order 1 6 = 1, mid 4, order 0 6 = 1, order 1 6 = 0");
    }

    private static void runSizes() {
        edge(21, "its VOLUME", PAIR, "run = 6");
        edge(21, "the VOLUME 1", "tell mid 5;buy 1 1 5 0;sell 9 1 5 1;", "run = 1, now 5 = 1");
        edge(21, "SIZE is so much less", PAIR, "run, order 0 1 = 4, order 0 5 = 0");
        edge(21, "SIZE 1 is left: OPEN", "tell mid 5;buy 7 1 5 0;sell 6 1 5 1;", "run, order 0 1 = 1, order 0 5 = 0");
        edge(21, "nothing is left: DONE", PAIR, "run, order 1 1 = 0, order 1 5 = 2");
        edge(21, "nothing is left of both", "tell mid 5;buy 6 1 5 0;sell 6 1 5 1;", "run, order 0 5 = 2, order 1 5 = 2, now 1 = 0");
        edge(21, "each gets its FILL", "tell mid 5;sell 8 1 5 1;sell 9 1 5 2;sell 10 1 5 3;buy 15 15 5 0;",
            "run = 15, order 0 7 = 1, order 1 7 = 4, order 2 7 = 10, order 3 7 = 15, order 0 1 = 7, order 1 1 = 5, order 2 1 = 0, order 3 1 = 0");
        edge(21, "what is not CHOSEN stays", "tell mid 5;sell 10 10 5 1;sell 10 10 5 2;buy 10 10 5 0;", "run = 10, order 1 1 = 10, order 1 2 = 10, order 1 5 = 0, order 1 7 = 0");
        edge(21, "the ORDER 0 is WILLING and not CHOSEN", "tell mid 5;sell 9 9 5 1;sell 10 10 5 2;buy 10 9 5 0;", "run = 10, now 7 = 6, order 0 1 = 9, order 0 5 = 0");
        edge(21, "two buyers of one FIRM, what others sell bounds them", "tell mid 5;buy 6 1 5 1;buy 6 1 5 1;sell 9 1 5 1;sell 2 1 5 0;buy 3 1 5 0;",
            "run = 5, now 7 = 31, order 0 7 = 1, order 1 7 = 1, order 2 7 = 3, order 3 7 = 2, order 4 7 = 3");
        edge(21, "at the MIDPOINT as it is", PAIR, "mid 4, run = 0, mid 6, run = 0, mid 5, run = 6");
        edge(21, "the MIDPOINT stays", PAIR, "run, now 2 = 5");
        edge(21, "5 times 999", "5* come 1 999 999 0 0, 5* come 0 999 999 0 1, run = 4995, now 1 = 0, now 7 = 1023");
        edge(21, "it is an act", PAIR, "run, now 8 = 1");
        edge(21, "ORDERS of the numbers 22 and 23", gone(0, 22), "come 0 4 1 0 0 = 22, come 1 3 1 0 1 = 23, run = 3, now 7 = 12582912, order 22 1 = 1, order 23 5 = 2");
    }

    private static void runLeasts() {
        edge(21, "LEAST one more than what is left", "tell mid 5;buy 10 5 5 0;sell 6 6 5 1;", "run = 6, order 0 1 = 4, order 0 2 = 4");
        edge(21, "LEAST as what is left", "tell mid 5;buy 10 4 5 0;sell 6 6 5 1;", "run = 6, order 0 1 = 4, order 0 2 = 4");
        edge(21, "LEAST one less than what is left", "tell mid 5;buy 10 3 5 0;sell 6 6 5 1;", "run = 6, order 0 1 = 4, order 0 2 = 3");
        edge(21, "LEAST of one DONE", "tell mid 5;buy 10 5 5 0;sell 6 6 5 1;", "run = 6, order 1 2 = 0");
        edge(21, "a seller's LEAST", "tell mid 5;sell 10 5 5 0;buy 6 6 5 1;", "run = 6, order 0 1 = 4, order 0 2 = 4");
        edge(21, "LEAST that has shrunk is kept to", "tell mid 5;buy 10 5 5 0;sell 6 6 5 1;", "run = 6, come 0 3 1 5 1, run = 0, why 0 = 3, come 0 1 1 5 1, run = 4");
        edge(21, "LEAST of one without a FILL stays", "tell mid 5;buy 10 5 5 0;sell 6 6 5 1;buy 9 9 4 2;", "run = 6, order 2 2 = 9");
    }

    private static void runNothing() {
        edge(21, "0: no ORDERS", "! run = 0");
        edge(21, "0: nobody across", "tell mid 5;buy 10 5 5 0;", "! run = 0");
        edge(21, "0: nobody WILLING", PAIR, "mid 6, ! run = 0");
        edge(21, "0: LEAST not met by one", "tell mid 5;buy 10 7 5 0;sell 6 6 5 1;", "! run = 0");
        edge(21, "0: one FIRM", "tell mid 5;buy 10 5 5 1;sell 6 6 5 1;", "! run = 0");
        edge(21, "0 behind a RUN: that stays the latest", PAIR, "run = 6, ! run = 0, now 5 = 6, now 3 = 1");
        edge(21, "0 is no act", PAIR, "mid 6, run = 0, now 8 = 1, undo = 0, now 2 = 5");
    }

    private static void leaksTo() {
        edge(21, "LEAKS: to the other's FIRM", PAIR, "run, order 0 8 = 2, order 1 8 = 1");
        edge(21, "LEAKS: to each FIRM across", "tell mid 5;buy 9 1 5 0;sell 4 1 5 1;sell 3 1 5 2;sell 2 1 5 5;", "run = 9, order 0 8 = 38");
        edge(21, "LEAKS: two ORDERS of one FIRM are one", "tell mid 5;buy 9 1 5 0;sell 4 1 5 1;sell 3 1 5 1;", "run = 7, order 0 8 = 2");
        edge(21, "LEAKS: to a FIRM that gave it nothing", "tell mid 5;buy 5 5 5 0;buy 5 5 5 1;sell 5 5 5 1;sell 5 5 5 2;", "run = 10, order 0 8 = 6, order 3 8 = 3");
        edge(21, "LEAKS: of two RUNS together", "tell mid 5;buy 9 1 5 0;sell 4 1 5 1;", "run = 4, come 0 3 1 5 2, run = 3, order 0 8 = 6, order 2 8 = 1");
        edge(21, "LEAKS: twice to one FIRM is once", "tell mid 5;buy 9 1 5 0;sell 4 1 5 1;", "run = 4, come 0 3 1 5 1, run = 3, order 0 8 = 2");
        edge(21, "LEAKS: to FIRM 0 and FIRM 5", "tell mid 5;sell 9 1 5 3;buy 4 1 5 0;buy 3 1 5 5;", "run = 7, order 0 8 = 33");
    }

    private static void leaksNotTo() {
        edge(21, "LEAKS: not to its own FIRM", "tell mid 5;buy 6 1 5 0;buy 5 1 5 1;sell 6 1 5 1;sell 5 1 5 2;", "run = 11, order 1 8 = 4, order 2 8 = 1, order 0 8 = 6, order 3 8 = 3");
        edge(21, "LEAKS: not to its own FIRM 0", "tell mid 5;buy 6 1 5 1;buy 5 1 5 0;sell 6 1 5 0;sell 5 1 5 2;", "run = 11, order 1 8 = 4, order 2 8 = 2");
        edge(21, "LEAKS: not to FIRMS of its own side", "tell mid 5;buy 6 1 5 0;buy 5 1 5 1;sell 11 1 5 2;", "run = 11, order 0 8 = 4, order 1 8 = 4, order 2 8 = 3");
        edge(21, "LEAKS: not to a FIRM that is not WILLING", "tell mid 5;buy 6 1 5 0;sell 6 1 5 1;sell 6 1 6 2;", "run = 6, order 0 8 = 2");
        edge(21, "LEAKS: not to a FIRM that is not CHOSEN", "tell mid 5;sell 10 10 5 1;sell 10 10 5 2;buy 10 10 5 0;", "run = 10, order 2 8 = 2");
        edge(21, "LEAKS: not of one without a FILL", "tell mid 5;sell 10 10 5 1;sell 10 10 5 2;buy 10 10 5 0;", "run = 10, order 1 8 = 0");
        edge(21, "LEAKS: not to FIRMS of a RUN that it had no FILL in", "tell mid 5;buy 4 1 5 0;sell 4 1 5 1;", "run = 4, come 1 3 1 5 2, come 0 3 1 5 3, run = 3, order 0 8 = 2, order 1 8 = 1");
        edge(21, "LEAKS: none by a run() of 0", PAIR, "mid 6, run = 0, order 0 8 = 0, order 1 8 = 0");
        edge(21, "LEAKS: none by what would be", PAIR, "fill 0 = 6, chosen 5 0 = 6, order 0 8 = 0, order 1 8 = 0");
    }

    private static void undoKinds() {
        edge(22, "come()", PAIR, "come 1 5 5 5 5, undo = 0, now 0 = 2, now 1 = 3, order 2 0 throws");
        edge(22, "withdraw()", PAIR, "withdraw 1, undo = 0, order 1 5 = 0, now 1 = 3, run = 6");
        edge(22, "amend() of LEAST", PAIR, "amend 0 0 9, undo = 0, order 0 2 = 4");
        edge(22, "amend() of LIMIT", PAIR, "amend 0 1 9, undo = 0, order 0 3 = 5");
        edge(22, "mid()", PAIR, "mid 9, undo = 0, now 2 = 5");
        edge(22, "run()", PAIR, "run, undo = 0, order 0 1 = 10");
        edge(22, "the latest alone", PAIR, "mid 9, amend 0 0 9, undo = 1, order 0 2 = 4, now 2 = 9");
        edge(22, "one after another", PAIR, "mid 9, amend 0 0 9, withdraw 1, undo = 2, order 1 5 = 0, undo = 1, order 0 2 = 4, undo = 0, now 2 = 5");
        edge(22, "an act behind an undo()", PAIR, "mid 9, undo, mid 8, undo = 0, now 2 = 5");
        edge(22, "undo() is no act", PAIR, "mid 8, mid 9, undo = 1, undo = 0, now 2 = 5, undo = -1");
        edge(22, "the tape is not brought back", PAIR, "mid 8, feed 0 0 0 0 0, undo = 0, now 9 = 20");
        edge(22, "the tape is not emptied", PAIR, "feed 0 0 0 0 0, mid 8, end 3, undo = 0, now 9 = 3");
        edge(22, "fault() is not brought back", PAIR, "mid 8", "type x", "text = -1, undo = 0, fault = 1");
    }

    private static void undoRun() {
        String desk = "tell mid 5;buy 10 8 5 0;sell 4 3 5 1;sell 5 5 5 2;";
        edge(22, "run(): SIZES", desk, "run = 9, order 0 1 = 1, undo, order 0 1 = 10, order 1 1 = 4, order 2 1 = 5");
        edge(22, "run(): LEASTS", desk, "run = 9, order 0 2 = 1, undo, order 0 2 = 8, order 1 2 = 3, order 2 2 = 5");
        edge(22, "run(): OPEN again", desk, "run = 9, now 1 = 1, undo, now 1 = 7, order 1 5 = 0, order 2 5 = 0");
        edge(22, "run(): FILLS", desk, "run = 9, undo, order 0 7 = 0, order 1 7 = 0, order 2 7 = 0");
        edge(22, "run(): LEAKS", desk, "run = 9, undo, order 0 8 = 0, order 1 8 = 0, order 2 8 = 0");
        edge(22, "run(): RUNS and VOLUMES", desk, "run = 9, undo, now 3 = 0, now 4 = 0, now 5 = -1, now 6 = -1, now 7 = 0");
        edge(22, "run(): it can be done again", desk, "run = 9, undo, run = 9, now 3 = 1, now 4 = 9, now 8 = 1");
        edge(22, "run(): the one ahead stays", desk, "run = 9, come 0 1 1 5 3, run = 1, undo = 2, now 3 = 1, now 4 = 9, now 5 = 9, now 7 = 7, order 0 7 = 9, order 0 8 = 6");
    }

    private static void undoEight() {
        edge(22, "8 of 8 are kept", "mid 1, mid 2, mid 3, mid 4, mid 5, mid 6, mid 7, mid 8", "undo = 7, undo = 6, undo = 5, undo = 4, undo = 3, undo = 2, undo = 1, undo = 0, now 2 = 0, ! undo = -1");
        edge(22, "8 of 9 are kept", NINE_MIDS, "undo = 7, undo = 6, undo = 5, undo = 4, undo = 3, undo = 2, undo = 1, undo = 0, now 2 = 1, ! undo = -1");
        edge(22, "8 of 20 are kept", NINE_MIDS, "mid 10, mid 11, mid 12, mid 13, mid 14, mid 15, mid 16, mid 17, mid 18, mid 19, mid 20",
            "undo = 7, now 2 = 19, 6* undo, undo = 0, now 2 = 12, ! undo = -1");
        edge(22, "7 are kept", "mid 1, mid 2, mid 3, mid 4, mid 5, mid 6, mid 7, undo = 6, 5* undo, undo = 0, now 2 = 0, undo = -1");
        edge(22, "undone ones make room", NINE_MIDS, "undo, undo = 6, mid 18, mid 19, now 8 = 8, undo = 7, now 2 = 18, undo = 6, now 2 = 7, 5* undo, undo = 0, now 2 = 1, undo = -1");
        edge(22, "one more than the room that was made", NINE_MIDS, "undo = 7, mid 18, mid 19, now 8 = 8, 7* undo, undo = 0, now 2 = 2, undo = -1");
        edge(22, "the ninth back is a RUN: it stays", PAIR, "run = 6, mid 10, mid 11, mid 12, mid 13, mid 14, mid 15, mid 16, mid 17, 7* undo, undo = 0, now 2 = 5, now 3 = 1, order 1 5 = 2, undo = -1");
        edge(22, "the eighth back is a RUN: it is undone", PAIR, "run = 6, mid 11, mid 12, mid 13, mid 14, mid 15, mid 16, mid 17, 7* undo, undo = 0, now 3 = 0, order 1 5 = 0, undo = -1");
        edge(22, "all again from nothing kept", NINE_MIDS, "8* undo, mid 50, now 8 = 1, undo = 0, now 2 = 1, undo = -1");
    }

    private static void undoRefused() {
        edge(22, "a come() not as told is not undone", PAIR, "mid 9, come 1 0 1 1 1 = -1, undo = 0, now 2 = 5");
        edge(22, "a come() of an 11th that is OPEN is not undone", "10* come 0 1 1 0 0, come 0 1 1 0 0 = -1, undo = 7, now 0 = 9");
        edge(22, "a withdraw() of none is not undone", PAIR, "mid 9, withdraw 2 = -1, undo = 0, now 2 = 5");
        edge(22, "an amend() of none is not undone", PAIR, "mid 9, amend 2 0 1 = -1, undo = 0, now 2 = 5");
        edge(22, "an amend() of LEAST to the same is not undone", PAIR, "mid 9, amend 0 0 4 = -2, undo = 0, now 2 = 5");
        edge(22, "an amend() of LIMIT to the same is not undone", PAIR, "mid 9, amend 0 1 5 = -2, undo = 0, now 2 = 5");
        edge(22, "a mid() out of bounds is not undone", PAIR, "mid 9, mid 1000 = -1, undo = 0, now 2 = 5");
        edge(22, "a mid() to the same is not undone", PAIR, "mid 9, mid 9 = -2, undo = 0, now 2 = 5");
        edge(22, "a run() of 0 is not undone", PAIR, "mid 9, run = 0, undo = 0, now 2 = 5");
        edge(22, "what would be is not undone", PAIR, "mid 4, chosen 5 0, fill 0, why 0, volume 1, best, were 0 1, worth 0, reach 0, rank 0, undo = 0, now 2 = 5");
    }

    private static void undoNone() {
        edge(22, "NONE: a new object", "! undo = -1");
        edge(22, "NONE: a new TEXT", PAIR, "! undo = -1");
        edge(22, "NONE: a new TEXT behind acts", "mid 3, mid 4", PAIR, "! undo = -1");
        edge(22, "NONE: an empty text behind acts", "mid 3, mid 4, text = 0, ! undo = -1");
        edge(22, "NONE: all undone", PAIR, "mid 3, undo = 0, ! undo = -1");
        edge(22, "NONE once, and then an act", PAIR, "undo = -1, mid 3, undo = 0, now 2 = 5");
        edge(22, "a text with a FAULT behind acts: they can be undone", PAIR, "mid 3, mid 4", "type mid 9", "text = -6, undo = 1, now 2 = 3, undo = 0, now 2 = 5");
    }
}

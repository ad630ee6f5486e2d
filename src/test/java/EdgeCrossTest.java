/** Boundary cases of promises 6 to 16, and of the words that they use: WILLING, SETS, VOLUME, RANK, CHOSEN, FILLS, why. */
public final class EdgeCrossTest {
    private static final Edges EDGES = new Edges("EdgeCrossTest", 6, 16);
    /** A RUN at 5 gives 4 (ORDERS 0 and 1), then one at 6 gives 3 (0 and 2); 2 of the buyer are left. */
    private static final String TWO = "tell mid 5;buy 9 1 9 1;sell 4 1 5 2;sell 3 1 6 3;";
    /** ORDER 0 is OPEN, 1 is DONE, 2 is WITHDRAWN. */
    private static final String[] KINDS = {"tell mid 5;buy 9 3 5 0;sell 4 1 5 1;buy 7 2 4 2;", "run = 4, withdraw 2 = 7"};

    /** 9 all or none, or 10 all or none, for one buyer: the first by number is not CHOSEN. */
    private static final String FIRST_OUT = "tell mid 5;sell 9 9 5 1;sell 10 10 5 2;buy 10 9 5 0;";
    /** FIRM 1 can buy 2 and sell 3, though it has much more on each side. */
    private static final String BUYERS_OF_ONE = "tell mid 5;buy 6 1 5 1;buy 6 1 5 1;sell 9 1 5 1;sell 2 1 5 0;buy 3 1 5 0;";
    private static final String SELLERS_OF_ONE = "tell mid 5;sell 6 1 5 1;sell 6 1 5 1;buy 9 1 5 1;buy 2 1 5 0;sell 3 1 5 0;";

    public static void main(String[] args) {
        nowOrders();
        nowRuns();
        nowRest();
        orderFields();
        orderWilling();
        orderThrows();
        ranks();
        chosenArguments();
        chosenRules();
        fillRules();
        fillNone();
        whyOneAndTwo();
        whyThree();
        whyFourAndFive();
        setsThatCanTrade();
        volumeArguments();
        bests();
        weres();
        worths();
        reaches();
        EDGES.finish();
    }

    private static void edge(int promise, String name, String... steps) { EDGES.edge(promise, name, steps); }

    /** Calls by which n ORDERS have come and gone. */
    private static String gone(int n) {
        StringBuilder b = new StringBuilder("come 0 1 1 0 0, withdraw 0");
        for (int i = 1; i < n; i++) b.append(", come 0 1 1 0 0, withdraw ").append(i);
        return b.toString();
    }

    private static void nowOrders() {
        edge(6, "0: none ever", "now 0 = 0");
        edge(6, "0: one OPEN", "come 1 1 1 1 1, now 0 = 1");
        edge(6, "0: one WITHDRAWN counts", "come 1 1 1 1 1, withdraw 0, now 0 = 1");
        edge(6, "0: one DONE counts", "tell mid 5;buy 9 1 5 1;sell 9 1 5 2;", "run = 9, now 0 = 2");
        edge(6, "0: one undone never was", "come 1 1 1 1 1, undo, now 0 = 0");
        edge(6, "0: one refused never was", "come 1 0 1 1 1, now 0 = 0");
        edge(6, "0: 24", gone(24), "now 0 = 24");
        edge(6, "1: none", "now 1 = 0");
        edge(6, "1: not one WITHDRAWN", "tell mid 5;buy 9 1 5 1;buy 9 1 5 1;", "withdraw 0, now 1 = 2");
        edge(6, "1: not one DONE", "tell mid 5;buy 9 1 5 1;sell 4 1 5 2;", "run, now 1 = 1");
        edge(6, "1: not WILLING is OPEN", "tell mid 5;buy 9 1 4 1;", "now 1 = 1");
        edge(6, "1: the last of 24", gone(23), "come 0 1 1 0 0 = 23, now 1 = 8388608");
        edge(6, "1: ten", "10* come 0 1 1 0 0, now 1 = 1023");
        edge(6, "2: at first", "now 2 = 0");
        edge(6, "2: as told", "tell mid 999;", "now 2 = 999");
        edge(6, "2: by mid()", "mid 3, now 2 = 3");
        edge(6, "2: undone", "mid 3, undo, now 2 = 0");
    }

    private static void nowRuns() {
        edge(6, "3: none", TWO, "now 3 = 0");
        edge(6, "3: two", TWO, "run, mid 6, run, now 3 = 2");
        edge(6, "3: a run() of 0 is none", TWO, "mid 4, run = 0, now 3 = 0");
        edge(6, "3: one undone", TWO, "run, mid 6, run, undo, now 3 = 1");
        edge(6, "4: none", TWO, "now 4 = 0");
        edge(6, "4: two together", TWO, "run = 4, mid 6, run = 3, now 4 = 7");
        edge(6, "4: one undone", TWO, "run, mid 6, run, undo, now 4 = 4");
        edge(6, "5: NONE", TWO, "now 5 = -1");
        edge(6, "5: the latest", TWO, "run, mid 6, run, now 5 = 3");
        edge(6, "5: a run() of 0 is not the latest", TWO, "run = 4, run = 0, now 5 = 4");
        edge(6, "5: NONE behind a run() of 0", TWO, "mid 4, run = 0, now 5 = -1");
        edge(6, "5: the one ahead, when the latest is undone", TWO, "run, mid 6, run, undo, now 5 = 4");
        edge(6, "5: NONE, when the only one is undone", TWO, "run, undo, now 5 = -1");
        edge(6, "6: NONE", TWO, "now 6 = -1");
        edge(6, "6: that of the RUN, not as it is", TWO, "run, mid 6, now 6 = 5");
        edge(6, "6: the latest", TWO, "run, mid 6, run, now 6 = 6");
        edge(6, "6: a RUN at 0", "tell mid 0;buy 9 1 0 0;sell 9 1 0 1;", "run = 9, now 6 = 0");
        edge(6, "6: the one ahead, when the latest is undone", TWO, "run, mid 6, run, undo, now 6 = 5");
        edge(6, "6: NONE, when the only one is undone", TWO, "run, undo, now 6 = -1");
        edge(6, "7: 0", TWO, "now 7 = 0");
        edge(6, "7: not one without a FILL", TWO, "run, now 7 = 3");
        edge(6, "7: of the latest alone", TWO, "run, mid 6, run, now 7 = 5");
        edge(6, "7: one WITHDRAWN since had one", TWO, "run, withdraw 0, now 7 = 3");
        edge(6, "7: the one ahead, when the latest is undone", TWO, "run, mid 6, run, undo, now 7 = 3");
        edge(6, "7: 0, when the only one is undone", TWO, "run, undo, now 7 = 0");
    }

    private static void nowRest() {
        edge(6, "8: nothing", "now 8 = 0");
        edge(6, "8: one", "mid 1, now 8 = 1");
        edge(6, "8: eight", "mid 1, mid 2, mid 3, mid 4, mid 5, mid 6, mid 7, mid 8, now 8 = 8");
        edge(6, "8: nine are eight", "mid 1, mid 2, mid 3, mid 4, mid 5, mid 6, mid 7, mid 8, mid 9, now 8 = 8");
        edge(6, "8: one less by undo()", "mid 1, mid 2, undo, now 8 = 1");
        edge(6, "9: none", "now 9 = 0");
        edge(6, "9: 20", "feed 0 0 0 0 0, now 9 = 20");
        edge(6, "9: 440", "22* feed 0 0 0 0 0, now 9 = 440");
        edge(6, "9: cut", "feed 0 0 0 0 0, end 7, now 9 = 7");
        edge(6, "9: none behind text()", "tell mid 5;", "now 9 = 0");
        for (String what : new String[] {"-1", "10", "11", "MIN", "MAX"}) edge(6, "another what: " + what, TWO, "run", "! now " + what + " = -1");
    }

    private static void orderFields() {
        edge(7, "0: a buyer", "come 1 9 2 3 4, order 0 0 = 1");
        edge(7, "0: a seller", "come 0 9 2 3 4, order 0 0 = 0");
        edge(7, "1: SIZE", "come 0 9 2 3 4, order 0 1 = 9");
        edge(7, "1: what is left of it", KINDS[0], KINDS[1], "order 0 1 = 5");
        edge(7, "1: DONE, nothing is left", KINDS[0], KINDS[1], "order 1 1 = 0");
        edge(7, "1: WITHDRAWN, its SIZE is left", KINDS[0], KINDS[1], "order 2 1 = 7");
        edge(7, "2: LEAST", "come 0 9 2 3 4, order 0 2 = 2");
        edge(7, "2: DONE, no more than SIZE", KINDS[0], KINDS[1], "order 1 2 = 0");
        edge(7, "2: WITHDRAWN, as it was", KINDS[0], KINDS[1], "order 2 2 = 2");
        edge(7, "3: LIMIT 0", "come 0 9 2 0 4, order 0 3 = 0");
        edge(7, "3: LIMIT 999", "come 0 9 2 999 4, order 0 3 = 999");
        edge(7, "3: DONE, as it was", KINDS[0], KINDS[1], "order 1 3 = 5");
        edge(7, "4: FIRM 0", "come 0 9 2 3 0, order 0 4 = 0");
        edge(7, "4: FIRM 5", "come 0 9 2 3 5, order 0 4 = 5");
        edge(7, "5: OPEN", KINDS[0], KINDS[1], "order 0 5 = 0");
        edge(7, "5: DONE", KINDS[0], KINDS[1], "order 1 5 = 2");
        edge(7, "5: WITHDRAWN", KINDS[0], KINDS[1], "order 2 5 = 1");
        edge(7, "7: none", KINDS[0], KINDS[1], "order 2 7 = 0");
        edge(7, "7: of one RUN", KINDS[0], KINDS[1], "order 1 7 = 4");
        edge(7, "7: of two RUNS together", TWO, "run = 4, mid 6, run = 3, order 0 7 = 7");
        edge(7, "8: none", KINDS[0], KINDS[1], "order 2 8 = 0");
        edge(7, "8: FIRM 0 is the bit 1", KINDS[0], KINDS[1], "order 1 8 = 1");
        edge(7, "8: FIRM 5 is the bit 32", "tell mid 5;buy 9 1 5 5;sell 9 1 5 4;", "run, order 1 8 = 32, order 0 8 = 16");
        edge(7, "8: of two RUNS", TWO, "run, mid 6, run, order 0 8 = 12");
    }

    private static void orderWilling() {
        edge(7, "6: a buyer's LIMIT is the MIDPOINT", "tell mid 5;buy 9 1 5 1;", "order 0 6 = 1");
        edge(7, "6: a buyer's LIMIT is one less", "tell mid 5;buy 9 1 4 1;", "order 0 6 = 0");
        edge(7, "6: a buyer's LIMIT is one more", "tell mid 5;buy 9 1 6 1;", "order 0 6 = 1");
        edge(7, "6: a seller's LIMIT is the MIDPOINT", "tell mid 5;sell 9 1 5 1;", "order 0 6 = 1");
        edge(7, "6: a seller's LIMIT is one more", "tell mid 5;sell 9 1 6 1;", "order 0 6 = 0");
        edge(7, "6: a seller's LIMIT is one less", "tell mid 5;sell 9 1 4 1;", "order 0 6 = 1");
        edge(7, "6: a buyer of LIMIT 0 at 0", "tell mid 0;buy 9 1 0 1;", "order 0 6 = 1");
        edge(7, "6: a buyer of LIMIT 0 at 1", "tell mid 1;buy 9 1 0 1;", "order 0 6 = 0");
        edge(7, "6: a buyer of LIMIT 999 at 999", "tell mid 999;buy 9 1 999 1;", "order 0 6 = 1");
        edge(7, "6: a seller of LIMIT 0 at 0", "tell mid 0;sell 9 1 0 1;", "order 0 6 = 1");
        edge(7, "6: a seller of LIMIT 999 at 998", "tell mid 998;sell 9 1 999 1;", "order 0 6 = 0");
        edge(7, "6: a seller of LIMIT 999 at 999", "tell mid 999;sell 9 1 999 1;", "order 0 6 = 1");
        edge(7, "6: WITHDRAWN is not WILLING", "tell mid 5;buy 9 1 5 1;", "withdraw 0, order 0 6 = 0");
        edge(7, "6: DONE is not WILLING", "tell mid 5;buy 9 1 5 1;sell 9 1 5 2;", "run, order 0 6 = 0, order 1 6 = 0");
        edge(7, "6: WILLING though nobody is across", "tell mid 5;buy 9 9 5 1;", "order 0 6 = 1");
        edge(7, "6: at the MIDPOINT as it is", "tell mid 5;buy 9 1 5 1;", "mid 6, order 0 6 = 0, mid 4, order 0 6 = 1");
    }

    private static void orderThrows() {
        edge(7, "no such one: none at all", "! order 0 0 throws");
        edge(7, "no such one: behind the last", KINDS[0], KINDS[1], "! order 3 0 throws");
        edge(7, "no such one: two behind the last", KINDS[0], KINDS[1], "! order 4 0 throws");
        edge(7, "no such one: 23 of three", KINDS[0], KINDS[1], "! order 23 0 throws");
        edge(7, "no such one: 24 of three", KINDS[0], KINDS[1], "! order 24 0 throws");
        edge(7, "the last is one", KINDS[0], KINDS[1], "order 2 0 = 1");
        edge(7, "no such one: -1", KINDS[0], KINDS[1], "! order -1 0 throws");
        edge(7, "no such one: 24 of 24", gone(24), "order 23 0 = 0, order 24 0 throws, now 0 = 24");
        edge(7, "no such one: 32 is not 0", KINDS[0], KINDS[1], "! order 32 0 throws");
        edge(7, "no such one: MIN", KINDS[0], KINDS[1], "! order MIN 0 throws");
        edge(7, "no such one: MAX", KINDS[0], KINDS[1], "! order MAX 0 throws");
        edge(7, "no such one: undone", "come 0 9 2 3 4, undo, ! order 0 0 throws");
        edge(7, "no such one: refused", "come 0 9 10 3 4 = -1, ! order 0 0 throws");
        edge(7, "another what: -1", KINDS[0], KINDS[1], "! order 0 -1 throws");
        edge(7, "another what: 9", KINDS[0], KINDS[1], "! order 0 9 throws");
        edge(7, "the last what is one", KINDS[0], KINDS[1], "order 0 8 = 2");
        edge(7, "another what: MIN", KINDS[0], KINDS[1], "! order 0 MIN throws");
        edge(7, "another what: MAX", KINDS[0], KINDS[1], "! order 0 MAX throws");
        edge(7, "both", KINDS[0], KINDS[1], "! order 3 9 throws");
        edge(7, "WITHDRAWN and DONE are such ones", KINDS[0], KINDS[1], "order 1 4 = 1, order 2 4 = 2");
        edge(7, "a throw leaves the tape and what can be undone", KINDS[0], KINDS[1], "feed 0 0 0 0 0, order 9 9 throws, now 9 = 20, undo = 1, undo = 0");
    }

    private static void ranks() {
        edge(8, "none OPEN", "! rank 0 = -1");
        edge(8, "the greatest first", "tell mid 5;buy 3 1 5 1;sell 4 1 5 1;", "rank 0 = 1, rank 1 = 0");
        edge(8, "of like SIZES the least number", "tell mid 5;buy 3 1 5 1;sell 3 2 5 1;", "rank 0 = 0, rank 1 = 1");
        edge(8, "of three like SIZES", "tell mid 5;buy 3 1 9 1;sell 3 2 5 2;buy 3 3 1 0;", "rank 0 = 0, rank 1 = 1, rank 2 = 2, rank 3 = -1");
        edge(8, "SIZE counts, not LEAST", "tell mid 5;buy 3 3 5 1;buy 4 1 5 1;", "rank 0 = 1");
        edge(8, "SIZES one apart at the top", "tell mid 5;buy 998 1 5 1;buy 999 1 5 1;", "rank 0 = 1, rank 1 = 0");
        edge(8, "k below 0", "tell mid 5;buy 3 1 5 1;", "! rank -1 = -1");
        edge(8, "k as many as are OPEN", "tell mid 5;buy 3 1 5 1;", "! rank 1 = -1");
        edge(8, "k is MIN", "tell mid 5;buy 3 1 5 1;", "! rank MIN = -1");
        edge(8, "k is MAX", "tell mid 5;buy 3 1 5 1;", "! rank MAX = -1");
        edge(8, "ten, the last and one more", "10* come 1 1 1 1 1, rank 9 = 9, rank 10 = -1");
        edge(8, "not WILLING is OPEN", "tell mid 5;buy 9 1 4 1;buy 3 1 5 1;", "rank 0 = 0");
        edge(8, "not one WITHDRAWN", "tell mid 5;buy 9 1 5 1;buy 3 1 5 1;", "withdraw 0, rank 0 = 1, rank 1 = -1");
        edge(8, "not one DONE", "tell mid 5;buy 9 1 5 1;sell 3 1 5 2;", "run, rank 0 = 0, rank 1 = -1");
        edge(8, "SIZE is what is left", "tell mid 5;buy 9 1 5 1;sell 6 1 5 2;sell 4 1 9 3;", "rank 0 = 0, run = 6, rank 0 = 2, rank 1 = 0");
        edge(8, "SIZE is as it was, undone", "tell mid 5;buy 9 1 5 1;sell 6 1 5 2;sell 4 1 9 3;", "run, undo, rank 0 = 0, rank 1 = 1, rank 2 = 2");
        edge(8, "the one of number 23", gone(23), "come 0 1 1 0 0 = 23, rank 0 = 23, rank 1 = -1");
    }

    private static void chosenArguments() {
        String low = "tell mid 5;buy 3 1 0 0;sell 3 1 0 1;";
        String high = "tell mid 5;buy 3 1 999 0;sell 3 1 999 1;";
        edge(9, "at 0", low, "! chosen 0 0 = 3, ! chosen 0 1 = 3");
        edge(9, "at 1, a buyer's LIMIT 0", low, "chosen 1 0 = 0, chosen 1 1 = 0");
        edge(9, "at 999", high, "! chosen 999 0 = 3, ! chosen 999 1 = 3");
        edge(9, "at 998, a seller's LIMIT 999", high, "chosen 998 0 = 0, chosen 998 1 = 0");
        edge(9, "at -1", low, "! chosen -1 0 = -1, ! chosen -1 1 = -1");
        edge(9, "at 1000", high, "! chosen 1000 0 = -1, ! chosen 1000 1 = -1");
        edge(9, "at MIN", low, "! chosen MIN 0 = -1");
        edge(9, "at MAX", high, "! chosen MAX 0 = -1");
        edge(9, "what -1", low, "! chosen 0 -1 = -1");
        edge(9, "what 2", low, "! chosen 0 2 = -1");
        edge(9, "what MIN", low, "! chosen 0 MIN = -1");
        edge(9, "what MAX", low, "! chosen 0 MAX = -1");
        edge(9, "both others", low, "! chosen 1000 2 = -1");
        edge(9, "at another MIDPOINT than it is", low, "chosen 5 0 = 0, chosen 0 0 = 3, now 2 = 5, run = 0");
        edge(9, "no ORDERS", "chosen 0 0 = 0, chosen 999 1 = 0");
        edge(9, "between two LIMITS, both ends", "tell mid 0;sell 3 1 20 0;buy 3 1 22 1;",
            "chosen 19 0 = 0, chosen 20 0 = 3, chosen 21 0 = 3, chosen 22 0 = 3, chosen 23 0 = 0");
        edge(9, "not one WITHDRAWN", low, "withdraw 1, chosen 0 0 = 0, chosen 0 1 = 0");
        edge(9, "not one DONE", low, "mid 0, run = 3, chosen 0 0 = 0, chosen 0 1 = 0");
        edge(9, "the one of number 23", gone(22), "come 0 4 1 0 0 = 22, come 1 4 1 0 1 = 23, chosen 0 0 = 4, chosen 0 1 = 12582912");
    }

    private static void chosenRules() {
        edge(9, "the greatest VOLUME, RANK aside", "tell mid 5;sell 10 10 5 1;sell 6 6 5 2;sell 5 5 5 3;buy 11 1 5 0;", "chosen 5 0 = 11, chosen 5 1 = 14");
        edge(9, "VOLUME one greater", "tell mid 5;sell 10 10 5 1;sell 9 9 5 2;sell 2 2 5 3;buy 11 11 5 0;", "chosen 5 0 = 11, chosen 5 1 = 14");
        edge(9, "like VOLUMES, the first by RANK", "tell mid 5;sell 6 6 5 1;sell 4 4 5 2;sell 10 10 5 3;buy 10 10 5 0;", "chosen 5 0 = 10, chosen 5 1 = 12");
        edge(9, "like VOLUMES, SIZE one greater", "tell mid 5;sell 10 10 5 1;sell 11 10 5 2;buy 10 10 5 0;", "chosen 5 0 = 10, chosen 5 1 = 6");
        edge(9, "like VOLUMES and SIZES, the least number", "tell mid 5;sell 10 10 5 1;sell 10 10 5 2;buy 10 10 5 0;", "chosen 5 1 = 5");
        edge(9, "both have the first, the second tells", "tell mid 5;sell 6 6 5 1;sell 4 4 5 2;sell 10 10 5 3;sell 20 20 5 4;buy 30 30 5 0;", "chosen 5 0 = 30, chosen 5 1 = 28");
        edge(9, "like VOLUMES, one ORDER more", "tell mid 5;sell 10 1 5 1;sell 9 1 5 2;buy 10 10 5 0;", "chosen 5 0 = 10, chosen 5 1 = 7");
        edge(9, "one ORDER more, the last by RANK", "tell mid 5;sell 10 1 5 1;sell 1 1 5 2;buy 10 10 5 0;", "chosen 5 0 = 10, chosen 5 1 = 7");
        edge(9, "one ORDER more that would cost VOLUME", "tell mid 5;sell 10 10 5 1;buy 10 10 5 0;buy 11 11 5 2;sell 1 1 5 3;", "chosen 5 0 = 11, chosen 5 1 = 13");
        edge(9, "of the buyers, too", "tell mid 5;buy 10 10 5 1;buy 10 10 5 2;sell 10 10 5 0;", "chosen 5 1 = 5");
        edge(9, "RANK goes by what is left", "tell mid 5;sell 20 1 5 1;sell 9 9 7 2;buy 12 12 5 0;", "run = 12, amend 0 0 8, mid 7, come 1 9 8 7 0, chosen 7 0 = 9, chosen 7 1 = 10");
        edge(9, "nothing can TRADE: no ORDERS", "tell mid 5;buy 9 9 5 0;sell 8 1 5 1;", "chosen 5 0 = 0, chosen 5 1 = 0");
        edge(9, "the ORDER 0 is WILLING and not CHOSEN", FIRST_OUT, "chosen 5 0 = 10, chosen 5 1 = 6");
        edge(9, "two buyers of one FIRM, what others sell bounds it", BUYERS_OF_ONE, "chosen 5 0 = 5, chosen 5 1 = 31");
        edge(9, "two sellers of one FIRM, what others buy bounds it", SELLERS_OF_ONE, "chosen 5 0 = 5, chosen 5 1 = 31");
        edge(9, "one FIRM alone", "tell mid 5;buy 9 1 5 0;sell 9 1 5 0;", "chosen 5 0 = 0, chosen 5 1 = 0");
        edge(9, "ten, all of SIZE 999", "5* come 1 999 999 0 0, 5* come 0 999 999 0 1, chosen 0 0 = 4995, chosen 0 1 = 1023");
    }

    private static void fillRules() {
        edge(10, "the first by RANK as much as can be", "tell mid 5;sell 9 1 5 1;sell 10 1 5 2;buy 10 10 5 0;", "fill 1 = 9, fill 0 = 1, fill 2 = 10");
        edge(10, "of like SIZES the least number", "tell mid 5;sell 10 1 5 1;sell 10 1 5 2;buy 10 10 5 0;", "fill 0 = 9, fill 1 = 1");
        edge(10, "the other's LEAST is kept", "tell mid 5;sell 10 1 5 1;sell 9 4 5 2;buy 10 10 5 0;", "fill 0 = 6, fill 1 = 4");
        edge(10, "with that, the second, and so on", "tell mid 5;sell 8 1 5 1;sell 9 1 5 2;sell 10 1 5 3;buy 15 15 5 0;", "fill 2 = 10, fill 1 = 4, fill 0 = 1, fill 3 = 15");
        edge(10, "SIZE at most", "tell mid 5;sell 4 1 5 1;sell 3 1 5 2;buy 10 1 5 0;", "fill 0 = 4, fill 1 = 3, fill 2 = 7");
        edge(10, "LEAST as SIZE", "tell mid 5;sell 4 4 5 1;sell 6 6 5 2;buy 10 10 5 0;", "fill 0 = 4, fill 1 = 6, fill 2 = 10");
        edge(10, "buyers and sellers in one RANK", "tell mid 5;buy 8 1 5 0;buy 7 1 5 1;sell 9 1 5 2;sell 3 1 5 3;", "fill 2 = 9, fill 0 = 8, fill 1 = 4, fill 3 = 3");
        edge(10, "the first of FIRM 0 buys of others alone", "tell mid 5;buy 20 1 5 0;buy 10 1 5 1;sell 15 1 5 0;sell 6 1 5 1;", "fill 0 = 6, fill 1 = 10, fill 2 = 10, fill 3 = 6");
        edge(10, "the VOLUME is kept, not only the first served", "tell mid 5;buy 9 1 5 0;sell 8 1 5 0;sell 5 1 5 1;buy 4 1 5 1;", "fill 0 = 5, fill 1 = 4, fill 2 = 5, fill 3 = 4");
        edge(10, "the ORDER 0 is WILLING and not CHOSEN", FIRST_OUT, "fill 0 = 0, fill 1 = 10, fill 2 = 10");
        edge(10, "two buyers of one FIRM, what others sell bounds them", BUYERS_OF_ONE, "fill 0 = 1, fill 1 = 1, fill 2 = 3, fill 3 = 2, fill 4 = 3");
        edge(10, "two sellers of one FIRM, what others buy bounds them", SELLERS_OF_ONE, "fill 0 = 1, fill 1 = 1, fill 2 = 3, fill 3 = 2, fill 4 = 3");
        edge(10, "at the MIDPOINT as it is", "tell mid 5;buy 9 1 5 0;sell 8 1 5 1;", "fill 0 = 8, mid 6, fill 0 = 0");
        edge(10, "of 1", "tell mid 5;buy 1 1 5 0;sell 1 1 5 1;", "fill 0 = 1, fill 1 = 1");
        edge(10, "of 999", "tell mid 5;buy 999 999 5 0;sell 999 999 5 1;", "fill 0 = 999, fill 1 = 999");
        edge(10, "RANK by what is left", "tell mid 5;sell 20 1 5 1;sell 9 1 7 2;buy 12 12 5 0;", "run = 12, mid 7, come 1 10 10 7 0, fill 1 = 9, fill 0 = 1");
        edge(10, "it changes nothing", "tell mid 5;buy 9 3 5 0;sell 8 1 5 1;", "! fill 0 = 8");
    }

    private static void fillNone() {
        edge(10, "0: not WILLING", "tell mid 5;buy 9 1 4 0;sell 8 1 5 1;buy 2 1 5 0;", "! fill 0 = 0");
        edge(10, "0: not in what is CHOSEN", "tell mid 5;sell 10 10 5 1;sell 10 10 5 2;buy 10 10 5 0;", "! fill 1 = 0");
        edge(10, "0: nothing is CHOSEN", "tell mid 5;buy 9 9 5 0;sell 8 1 5 1;", "! fill 0 = 0, ! fill 1 = 0");
        edge(10, "0: DONE", KINDS[0], KINDS[1], "! fill 1 = 0");
        edge(10, "0: WITHDRAWN", KINDS[0], KINDS[1], "! fill 2 = 0");
        edge(10, "0: WITHDRAWN that could trade", "tell mid 5;buy 9 1 5 0;sell 8 1 5 1;sell 7 1 5 2;", "fill 2 = 1, withdraw 2, fill 2 = 0, fill 1 = 8");
        edge(10, "NONE: none at all", "! fill 0 = -1");
        edge(10, "NONE: behind the last", KINDS[0], KINDS[1], "! fill 3 = -1");
        edge(10, "NONE: two behind the last", KINDS[0], KINDS[1], "! fill 4 = -1");
        edge(10, "NONE: 23 of a few", KINDS[0], KINDS[1], "! fill 23 = -1");
        edge(10, "NONE: 24 of a few", KINDS[0], KINDS[1], "! fill 24 = -1");
        edge(10, "NONE: -1", KINDS[0], KINDS[1], "! fill -1 = -1");
        edge(10, "NONE: MIN", KINDS[0], KINDS[1], "! fill MIN = -1");
        edge(10, "NONE: MAX", KINDS[0], KINDS[1], "! fill MAX = -1");
        edge(10, "NONE: 24 of 24", gone(24), "fill 23 = 0, fill 24 = -1");
        edge(10, "NONE: undone", "come 0 9 2 3 4, undo, fill 0 = -1");
    }

    private static void whyOneAndTwo() {
        String two = "tell mid 5;buy 9 1 5 0;sell 8 1 5 1;";
        edge(11, "0: it has one", two, "! why 0 = 0, ! why 1 = 0");
        edge(11, "1: a buyer's LIMIT is one less", two, "amend 0 1 4, ! why 0 = 1");
        edge(11, "1: a seller's LIMIT is one more", two, "amend 1 1 6, ! why 1 = 1");
        edge(11, "1 ahead of 2", "tell mid 5;buy 9 1 4 0;", "why 0 = 1");
        edge(11, "1 ahead of 3", two, "amend 0 0 9, amend 0 1 4, why 0 = 1");
        edge(11, "2: it is alone", "tell mid 5;buy 9 1 5 0;", "! why 0 = 2");
        edge(11, "2: a seller alone", "tell mid 5;sell 9 1 5 0;", "why 0 = 2");
        edge(11, "2: another FIRM on its own side", "tell mid 5;buy 9 1 5 0;buy 9 1 5 1;", "why 0 = 2, why 1 = 2");
        edge(11, "2: its own FIRM on the other side", "tell mid 5;buy 9 1 5 0;sell 9 1 5 0;", "why 0 = 2, why 1 = 2");
        edge(11, "2: FIRM 5 on both sides", "tell mid 5;buy 9 1 5 5;sell 9 1 5 5;", "why 0 = 2, why 1 = 2");
        edge(11, "2: another FIRM's is not WILLING", two, "amend 1 1 6, why 0 = 2");
        edge(11, "2: another FIRM's is WITHDRAWN", two, "withdraw 1, why 0 = 2");
        edge(11, "2: another FIRM's is DONE", two, "run = 8, why 0 = 2");
        edge(11, "2 ahead of 3", "tell mid 5;buy 9 9 5 0;sell 1 1 5 0;", "why 0 = 2");
        edge(11, "NONE: WITHDRAWN", two, "withdraw 1, ! why 1 = -1");
        edge(11, "NONE: DONE", two, "run, ! why 1 = -1");
        edge(11, "NONE: none at all", "! why 0 = -1");
        edge(11, "NONE: behind the last", two, "! why 2 = -1");
        edge(11, "NONE: two behind the last", two, "! why 3 = -1");
        edge(11, "NONE: 23 of a few", two, "! why 23 = -1");
        edge(11, "NONE: 24 of a few", two, "! why 24 = -1");
        edge(11, "NONE: -1", two, "! why -1 = -1");
        edge(11, "NONE: MIN", two, "! why MIN = -1");
        edge(11, "NONE: MAX", two, "! why MAX = -1");
        edge(11, "NONE: 24 of 24", gone(24), "why 24 = -1");
    }

    private static void whyThree() {
        edge(11, "3: one less than its LEAST", "tell mid 5;buy 9 9 5 0;sell 8 1 5 1;", "! why 0 = 3");
        edge(11, "3: just its LEAST is enough", "tell mid 5;buy 9 8 5 0;sell 8 1 5 1;", "why 0 = 0");
        edge(11, "3: all together, one less", "tell mid 5;buy 9 9 5 0;sell 4 1 5 1;sell 4 1 5 2;", "why 0 = 3");
        edge(11, "3: all together, just so much", "tell mid 5;buy 9 9 5 0;sell 4 1 5 1;sell 5 1 5 2;", "why 0 = 0");
        edge(11, "3: its own FIRM's don't count", "tell mid 5;buy 9 9 5 0;sell 4 1 5 1;sell 5 1 5 0;", "why 0 = 3");
        edge(11, "3: those not WILLING don't count", "tell mid 5;buy 9 9 5 0;sell 4 1 5 1;sell 5 1 6 2;", "why 0 = 3");
        edge(11, "3: those WITHDRAWN don't count", "tell mid 5;buy 9 9 5 0;sell 4 1 5 1;sell 5 1 5 2;", "withdraw 2, why 0 = 3");
        edge(11, "3: those of its side don't count", "tell mid 5;buy 9 9 5 0;sell 4 1 5 1;buy 5 1 5 2;", "why 0 = 3");
        edge(11, "3: of a seller", "tell mid 5;sell 9 9 5 0;buy 8 1 5 1;", "why 0 = 3");
        edge(11, "3: SIZE is what is left", "tell mid 5;sell 9 1 5 0;buy 8 1 5 1;", "run = 8, come 1 2 2 5 2, why 2 = 3");
        edge(11, "3 ahead of 4", "tell mid 5;buy 9 9 5 0;sell 8 8 5 1;", "why 0 = 3, why 1 = 4");
    }

    private static void whyFourAndFive() {
        edge(11, "4: the only one across can't TRADE with it", "tell mid 5;buy 10 9 5 0;sell 8 1 5 1;", "! why 1 = 4");
        edge(11, "4: all or none of each don't fit", "tell mid 5;buy 9 9 5 2;sell 4 4 5 1;sell 6 6 5 3;buy 10 2 5 0;", "! why 0 = 4");
        edge(11, "4: one across wants more than it has", "tell mid 5;sell 3 3 5 0;buy 9 4 5 1;", "why 0 = 4, why 1 = 3");
        edge(11, "4: though others trade", "tell mid 5;buy 9 9 5 2;sell 4 4 5 1;sell 6 6 5 3;buy 10 2 5 0;", "why 1 = 0, why 2 = 0, why 3 = 0");
        edge(11, "5: one SET that can TRADE has it, one of more VOLUME not", "tell mid 5;buy 9 9 5 0;buy 8 8 5 1;sell 9 8 5 2;", "! why 1 = 5, why 0 = 0");
        edge(11, "5: of like VOLUME, but behind by RANK", "tell mid 5;sell 10 10 5 1;sell 10 10 5 2;buy 10 10 5 0;", "why 1 = 5, why 0 = 0");
        edge(11, "5: a third makes the SET that has it", "tell mid 5;buy 9 9 5 0;sell 5 5 5 1;sell 4 4 5 2;buy 5 5 5 3;buy 4 4 5 4;", "why 0 = 0, why 3 = 5, why 4 = 5");
        edge(11, "4 and 5 are one LEAST apart", "tell mid 5;buy 9 7 5 2;sell 4 4 5 1;sell 6 6 5 3;buy 10 10 5 0;", "why 0 = 4, amend 1 0 3, why 0 = 5");
    }

    private static void setsThatCanTrade() {
        edge(12, "no ORDERS: 0", "tell mid 5;buy 9 1 5 0;", "! volume 0 = 0");
        edge(12, "no ORDERS, none there: 0", "! volume 0 = 0");
        edge(12, "a buyer alone", "tell mid 5;buy 9 1 5 0;", "! volume 1 = -2");
        edge(12, "a seller alone", "tell mid 5;sell 9 1 5 0;", "! volume 1 = -2");
        edge(12, "two buyers", "tell mid 5;buy 9 1 5 0;buy 9 1 5 1;", "volume 3 = -2");
        edge(12, "two sellers", "tell mid 5;sell 9 1 5 0;sell 9 1 5 1;", "volume 3 = -2");
        edge(12, "one FIRM", "tell mid 5;buy 9 1 5 0;sell 9 1 5 0;", "volume 3 = -2");
        edge(12, "one FIRM and a third on one side", "tell mid 5;buy 9 1 5 0;sell 9 1 5 0;sell 4 1 5 1;", "volume 7 = -2, volume 5 = 4");
        edge(12, "one FIRM's both sides with another's both", "tell mid 5;buy 9 1 5 0;sell 9 1 5 0;buy 3 1 5 1;sell 4 1 5 1;", "volume 15 = 7");
        edge(12, "just LEAST", "tell mid 5;buy 9 8 5 0;sell 8 1 5 1;", "volume 3 = 8");
        edge(12, "one less than a buyer's LEAST", "tell mid 5;buy 9 9 5 0;sell 8 1 5 1;", "volume 3 = -2");
        edge(12, "one less than a seller's LEAST", "tell mid 5;sell 9 9 5 0;buy 8 1 5 1;", "volume 3 = -2");
        edge(12, "LEAST as SIZE on both sides", "tell mid 5;buy 9 9 5 0;sell 9 9 5 1;", "volume 3 = 9");
        edge(12, "SIZE at most", "tell mid 5;buy 9 1 5 0;sell 5 1 5 1;sell 3 1 5 2;", "volume 7 = 8, volume 3 = 5");
        edge(12, "LEASTS together as one SIZE", "tell mid 5;buy 9 1 5 0;sell 5 5 5 1;sell 4 4 5 2;", "volume 7 = 9");
        edge(12, "LEASTS together one more than a SIZE", "tell mid 5;buy 8 1 5 0;sell 5 5 5 1;sell 4 4 5 2;", "volume 7 = -2");
        edge(12, "buyers' LEASTS together one more than a SIZE", "tell mid 5;sell 8 1 5 0;buy 5 5 5 1;buy 4 4 5 2;", "volume 7 = -2");
        edge(12, "a FIRM's LEASTS on one side as others have across", "tell mid 5;sell 9 2 5 0;sell 9 3 5 0;buy 9 1 5 0;buy 5 1 5 1;sell 9 1 5 1;", "volume 31 = 14");
        edge(12, "a FIRM's LEASTS on one side, one more than others have across", "tell mid 5;sell 9 2 5 0;sell 9 4 5 0;buy 9 1 5 0;buy 5 1 5 1;sell 9 1 5 1;", "volume 31 = -2");
        edge(12, "a FIRM's buyers' LEASTS, one more than others sell", "tell mid 5;buy 9 2 5 0;buy 9 4 5 0;sell 9 1 5 0;sell 5 1 5 1;buy 9 1 5 1;", "volume 31 = -2");
        edge(12, "FIRM 5 apart as well", "tell mid 5;buy 9 1 5 5;sell 9 1 5 5;", "volume 3 = -2");
        edge(12, "two buyers of one FIRM, what others sell bounds it", BUYERS_OF_ONE, "volume 31 = 5");
        edge(12, "two sellers of one FIRM, what others buy bounds it", SELLERS_OF_ONE, "volume 31 = 5");
        edge(12, "three FIRMS, what one can give others bounds it", "tell mid 5;buy 20 1 5 0;sell 20 1 5 0;buy 3 1 5 1;sell 4 1 5 2;", "volume 15 = 7");
        edge(12, "1 of 1", "tell mid 5;buy 1 1 5 0;sell 1 1 5 1;", "volume 3 = 1");
        edge(12, "5 times 999", "5* come 1 999 999 0 0, 5* come 0 999 999 0 1, volume 1023 = 4995");
    }

    private static void volumeArguments() {
        String desk = "tell mid 5;buy 9 1 5 0;sell 9 1 5 1;buy 9 1 4 2;sell 9 1 6 3;";
        edge(12, "NONE: a buyer not WILLING", desk, "! volume 6 = -1");
        edge(12, "NONE: a seller not WILLING", desk, "! volume 9 = -1");
        edge(12, "NONE ahead of -2", desk, "volume 1 = -2, volume 5 = -1");
        edge(12, "NONE: behind the last", desk, "! volume 19 = -1");
        edge(12, "NONE: the bit 23", desk, "volume 8388611 = -1");
        edge(12, "NONE: the bit 24", desk, "volume 16777219 = -1");
        edge(12, "NONE: the bit 30", desk, "volume 1073741827 = -1");
        edge(12, "NONE: the bit 31", desk, "volume MIN = -1");
        edge(12, "NONE: the bit 31 and those that trade", desk, "volume -2147483645 = -1");
        edge(12, "NONE: all bits", desk, "! volume -1 = -1");
        edge(12, "NONE: none at all", "volume 1 = -1");
        edge(12, "NONE: WITHDRAWN", desk, "volume 3 = 9, withdraw 0, volume 3 = -1");
        edge(12, "NONE: DONE", desk, "run = 9, volume 3 = -1, volume 0 = 0");
        edge(12, "at the MIDPOINT as it is", desk, "mid 6, volume 3 = -1, mid 4, volume 5 = -2, volume 3 = -1");
        edge(12, "not only what is CHOSEN", "tell mid 5;sell 10 10 5 1;sell 10 10 5 2;buy 10 10 5 0;", "volume 5 = 10, volume 6 = 10, volume 7 = -2");
        edge(12, "the one of number 23", gone(22), "come 0 4 1 0 0 = 22, come 1 3 1 0 1 = 23, volume 12582912 = 3, volume 8388608 = -2");
    }

    private static void bests() {
        edge(13, "no ORDERS", "! best = 0");
        edge(13, "nothing trades anywhere", "tell mid 5;buy 9 1 4 0;sell 9 1 5 1;", "! best = 0");
        edge(13, "LIMITS that just meet", "tell mid 5;buy 9 1 5 0;sell 9 1 5 1;", "best = 5");
        edge(13, "the least of many", "tell mid 35;buy 9 1 40 0;sell 9 1 30 1;", "! best = 30");
        edge(13, "0", "tell mid 5;buy 9 1 40 0;sell 9 1 0 1;", "best = 0");
        edge(13, "0 alone", "tell mid 5;buy 9 1 0 0;sell 9 1 0 1;", "best = 0");
        edge(13, "1", "tell mid 5;buy 9 1 1 0;sell 9 1 1 1;", "best = 1");
        edge(13, "999", "tell mid 5;buy 9 1 999 0;sell 9 1 999 1;", "best = 999");
        edge(13, "998", "tell mid 5;buy 9 1 999 0;sell 9 1 998 1;", "best = 998");
        edge(13, "two peaks alike: the lower", "tell mid 25;sell 5 1 20 1;buy 5 1 30 0;sell 5 1 5 1;buy 5 1 10 0;", "best = 5");
        edge(13, "two peaks, the higher is one more", "tell mid 5;sell 5 1 20 1;buy 6 1 30 0;sell 5 1 5 1;buy 5 1 10 0;", "best = 20");
        edge(13, "two peaks, the lower is one more", "tell mid 25;sell 5 1 20 1;buy 5 1 30 0;sell 6 1 5 1;buy 5 1 10 0;", "best = 5");
        edge(13, "a LEAST waits for the second seller", "tell mid 5;buy 9 9 50 0;sell 5 5 10 1;sell 4 4 20 2;", "best = 20");
        edge(13, "one FIRM's LIMITS don't count", "tell mid 5;buy 9 1 50 0;sell 9 1 10 0;sell 4 1 20 1;", "best = 20");
        edge(13, "not one WITHDRAWN", "tell mid 5;buy 9 1 50 0;sell 5 1 10 1;sell 4 1 20 2;", "best = 20, withdraw 2, best = 10");
        edge(13, "not one DONE", "tell mid 10;buy 9 1 50 0;sell 5 1 10 1;sell 4 1 20 2;", "run = 5, best = 20, withdraw 2, best = 0");
        edge(13, "the MIDPOINT as it is does not matter", "tell mid 999;buy 9 1 40 0;sell 9 1 30 1;", "best = 30, mid 0, best = 30, now 2 = 0");
        edge(13, "a later seller of lower LIMIT", "tell mid 5;buy 4 1 50 0;sell 9 1 30 1;sell 9 1 20 2;", "best = 20");
        edge(13, "the ORDER 0 is WILLING and not CHOSEN", FIRST_OUT, "best = 5, amend 0 1 4, best = 5");
    }

    private static void weres() {
        String desk = "tell mid 5;buy 10 10 5 0;sell 4 4 5 1;sell 3 3 5 2;buy 9 9 4 3;";
        edge(14, "1", desk, "! were 0 1 = 7");
        edge(14, "just what there is", desk, "! were 0 7 = 7");
        edge(14, "one more than there is", desk, "! were 0 8 = 0");
        edge(14, "its SIZE", desk, "amend 0 0 1, ! were 0 10 = 0");
        edge(14, "0", desk, "! were 0 0 = -1");
        edge(14, "one more than its SIZE", desk, "! were 0 11 = -1");
        edge(14, "-1", desk, "! were 0 -1 = -1");
        edge(14, "MIN", desk, "! were 0 MIN = -1");
        edge(14, "MAX", desk, "! were 0 MAX = -1");
        edge(14, "SIZE 1", "tell mid 5;buy 1 1 5 0;sell 1 1 5 1;", "were 0 1 = 1, were 0 2 = -1");
        edge(14, "SIZE 999", "tell mid 5;buy 999 1 5 0;sell 999 1 5 1;", "were 0 999 = 999, were 0 1000 = -1");
        edge(14, "the LEAST that it has: the VOLUME as it is", desk, "were 0 10 = 0, were 1 4 = 0");
        edge(14, "SIZE is what is left", "tell mid 5;buy 10 1 5 0;sell 4 1 5 1;", "run = 4, were 0 6 = 0, were 0 7 = -1");
        edge(14, "not WILLING: the VOLUME as it is", desk, "amend 0 0 7, were 3 1 = 7");
        edge(14, "NONE: none at all", "! were 0 1 = -1");
        edge(14, "NONE: behind the last", desk, "! were 4 1 = -1");
        edge(14, "NONE: two behind the last", desk, "! were 5 1 = -1");
        edge(14, "NONE: 23 of a few", desk, "! were 23 1 = -1");
        edge(14, "NONE: 24 of a few", desk, "! were 24 1 = -1");
        edge(14, "NONE: ORDER -1", desk, "! were -1 1 = -1");
        edge(14, "NONE: ORDER MIN", desk, "! were MIN 1 = -1");
        edge(14, "NONE: ORDER MAX", desk, "! were MAX 1 = -1");
        edge(14, "NONE: 24 of 24", gone(24), "were 24 1 = -1");
        edge(14, "NONE: WITHDRAWN", desk, "withdraw 1, ! were 1 1 = -1");
        edge(14, "NONE: DONE", "tell mid 5;buy 10 1 5 0;sell 4 1 5 1;", "run, ! were 1 1 = -1, ! were 1 0 = -1");
        edge(14, "the others have theirs", desk, "were 0 5 = 7, amend 0 0 5, were 1 1 = 7");
        edge(14, "the ORDER 0 is WILLING and not CHOSEN", FIRST_OUT, "were 2 8 = 10, were 0 1 = 10, were 1 9 = 10");
        edge(14, "it changes nothing then", desk, "were 0 1 = 7, chosen 5 0 = 0, order 0 2 = 10, fill 0 = 0, volume 7 = -2, now 8 = 0");
    }

    private static void worths() {
        String desk = "tell mid 5;buy 10 7 5 0;sell 4 1 5 1;sell 5 1 5 2;sell 2 1 5 3;buy 9 9 4 3;";
        edge(15, "all hangs on it", desk, "! worth 0 = 10");
        edge(15, "all hangs on it by a LEAST", desk, "! worth 2 = 10");
        edge(15, "a part: 10 or 7, just the LEAST", desk, "! worth 1 = 3");
        edge(15, "one", desk, "! worth 3 = 1");
        edge(15, "not WILLING: 0", desk, "! worth 4 = 0");
        edge(15, "not CHOSEN: 0", "tell mid 5;sell 10 10 5 1;sell 10 10 5 2;buy 10 10 5 0;", "worth 1 = 0");
        edge(15, "CHOSEN, but another would do: 0", "tell mid 5;sell 10 10 5 1;sell 10 10 5 2;buy 10 10 5 0;", "fill 0 = 10, worth 0 = 0, worth 2 = 10");
        edge(15, "its FIRM's other side is no help", "tell mid 5;buy 9 1 5 0;sell 9 1 5 0;sell 4 1 5 1;", "worth 2 = 4, worth 1 = 0");
        edge(15, "the ORDER 0 is WILLING and not CHOSEN", FIRST_OUT, "worth 0 = 0, worth 1 = 1, worth 2 = 10");
        edge(15, "one not WILLING, the ORDER 0 not CHOSEN", FIRST_OUT, "come 1 5 5 4 3 = 3, worth 3 = 0");
        edge(15, "NONE: none at all", "! worth 0 = -1");
        edge(15, "NONE: behind the last", desk, "! worth 5 = -1");
        edge(15, "NONE: two behind the last", desk, "! worth 6 = -1");
        edge(15, "NONE: 23 of a few", desk, "! worth 23 = -1");
        edge(15, "NONE: 24 of a few", desk, "! worth 24 = -1");
        edge(15, "NONE: -1", desk, "! worth -1 = -1");
        edge(15, "NONE: MIN", desk, "! worth MIN = -1");
        edge(15, "NONE: MAX", desk, "! worth MAX = -1");
        edge(15, "NONE: 24 of 24", gone(24), "worth 24 = -1");
        edge(15, "NONE: WITHDRAWN", desk, "withdraw 3, ! worth 3 = -1");
        edge(15, "NONE: DONE", desk, "run = 10, order 2 5 = 2, ! worth 2 = -1");
    }

    private static void reaches() {
        String desk = "tell mid 5;buy 10 1 5 0;sell 4 1 5 1;sell 3 1 5 2;sell 9 1 6 4;";
        edge(16, "below its SIZE", desk, "! reach 0 = 7");
        edge(16, "its SIZE", desk, "! reach 1 = 4, ! reach 2 = 3");
        edge(16, "one less than its SIZE", "tell mid 5;buy 10 1 5 0;sell 9 1 5 1;", "reach 0 = 9");
        edge(16, "1 of SIZE 1", "tell mid 5;buy 1 1 5 0;sell 4 1 5 1;", "reach 0 = 1");
        edge(16, "1 of SIZE 2", "tell mid 5;buy 2 2 5 0;sell 1 1 5 1;", "reach 0 = 1");
        edge(16, "2 of SIZE 3", "tell mid 5;buy 3 3 5 0;sell 2 1 5 1;", "reach 0 = 2");
        edge(16, "1 of SIZE 999", "tell mid 5;buy 999 9 5 0;sell 1 1 5 1;", "reach 0 = 1");
        edge(16, "998 of SIZE 999", "tell mid 5;buy 999 9 5 0;sell 998 1 5 1;", "reach 0 = 998");
        edge(16, "999 of SIZE 999", "tell mid 5;buy 999 9 5 0;sell 999 1 5 1;", "reach 0 = 999");
        edge(16, "each LEAST of SIZE 8 is found", "tell mid 5;buy 8 1 5 0;sell 9 1 5 1;", "reach 0 = 8, withdraw 1",
            "come 0 7 1 5 1, reach 0 = 7, withdraw 2, come 0 6 1 5 1, reach 0 = 6, withdraw 3, come 0 5 1 5 1, reach 0 = 5, withdraw 4",
            "come 0 4 1 5 1, reach 0 = 4, withdraw 5, come 0 3 1 5 1, reach 0 = 3, withdraw 6, come 0 2 1 5 1, reach 0 = 2, withdraw 7",
            "come 0 1 1 5 1, reach 0 = 1, withdraw 8, reach 0 = 0");
        edge(16, "0: nobody is across", "tell mid 5;buy 10 1 5 0;", "! reach 0 = 0");
        edge(16, "0: its own FIRM is across", "tell mid 5;buy 10 1 5 0;sell 10 1 5 0;", "! reach 0 = 0");
        edge(16, "0: another SET is CHOSEN with any LEAST", "tell mid 5;sell 9 1 5 1;sell 10 10 5 2;buy 10 10 5 0;", "! reach 0 = 0");
        edge(16, "below the LEAST that it has", "tell mid 5;buy 10 10 5 0;sell 4 4 5 1;sell 3 3 5 2;", "! reach 0 = 7, run = 0, order 0 2 = 10");
        edge(16, "the other's LEAST bounds it", "tell mid 5;sell 10 1 5 1;sell 9 4 5 2;buy 10 10 5 0;", "reach 0 = 10, amend 1 0 9, reach 1 = 9");
        edge(16, "first by RANK with another SET of like VOLUME", "tell mid 5;sell 10 1 5 1;sell 10 10 5 2;buy 10 10 5 0;", "reach 0 = 10, reach 1 = 9");
        edge(16, "SIZE is what is left", "tell mid 5;buy 10 1 5 0;sell 4 1 5 1;", "run = 4, come 0 9 1 5 1, reach 0 = 6");
        edge(16, "the ORDER 0 is WILLING and not CHOSEN", FIRST_OUT, "reach 0 = 0, reach 1 = 10, reach 2 = 10");
        edge(16, "NONE: not WILLING", desk, "! reach 3 = -1");
        edge(16, "NONE: a buyer not WILLING", desk, "amend 0 1 4, ! reach 0 = -1");
        edge(16, "NONE: WITHDRAWN", desk, "withdraw 0, ! reach 0 = -1");
        edge(16, "NONE: DONE", desk, "run, ! reach 1 = -1");
        edge(16, "NONE: none at all", "! reach 0 = -1");
        edge(16, "NONE: behind the last", desk, "! reach 4 = -1");
        edge(16, "NONE: two behind the last", desk, "! reach 5 = -1");
        edge(16, "NONE: 23 of a few", desk, "! reach 23 = -1");
        edge(16, "NONE: 24 of a few", desk, "! reach 24 = -1");
        edge(16, "NONE: -1", desk, "! reach -1 = -1");
        edge(16, "NONE: MIN", desk, "! reach MIN = -1");
        edge(16, "NONE: MAX", desk, "! reach MAX = -1");
        edge(16, "NONE: 24 of 24", gone(24), "reach 24 = -1");
    }
}

/** Promises 6 to 16: what stands, which set is chosen, and what would be. */
public final class CrossTest {
    private static final Due DUE = new Due("CrossTest");

    public static void main(String[] args) {
        now();
        orders();
        ranks();
        chosenByVolume();
        chosenByRank();
        firmsApart();
        fills();
        whys();
        volumes();
        bests();
        weres();
        worths();
        reaches();
        DUE.finish();
    }

    private static void now() {
        BlockCross x = Due.desk("mid 5;buy 9 1 5 1;sell 4 1 5 2;buy 3 3 4 0;sell 2 2 5 3;");
        DUE.is(6, "now(1)", x.now(1), 15);
        x.run();
        x.mid(4);
        int[] want = {4, 5, 4, 1, 6, 6, 5, 11, 2, 0};
        for (int w = 0; w < 10; w++) DUE.is(6, "now(" + w + ")", x.now(w), want[w]);
        for (int w : new int[] {-1, 10, 11, Integer.MIN_VALUE, Integer.MAX_VALUE}) DUE.is(6, "now(" + w + ")", x.now(w), -1);
        x.feed(0, 0, 0, 0, 0);
        DUE.is(6, "now(9)", x.now(9), 20);
        x.withdraw(2);
        DUE.is(6, "now(1)", x.now(1), 1);
        DUE.is(6, "now(0)", x.now(0), 4);
    }

    private static void orders() {
        BlockCross x = Due.desk("mid 50;buy 9 2 50 1;buy 8 3 49 2;sell 7 4 50 3;sell 6 5 51 4;");
        int[] willing = {1, 0, 1, 0};
        for (int o = 0; o < 4; o++) DUE.is(7, "order(" + o + ",6)", x.order(o, 6), willing[o]);
        x.run();
        int[][] want = {{1, 2, 2, 50, 1, 0, 1, 7, 8}, {1, 8, 3, 49, 2, 0, 0, 0, 0}, {0, 0, 0, 50, 3, 2, 0, 7, 2}, {0, 6, 5, 51, 4, 0, 0, 0, 0}};
        for (int o = 0; o < 4; o++) for (int w = 0; w < 9; w++) DUE.is(7, "order(" + o + "," + w + ")", x.order(o, w), want[o][w]);
        x.withdraw(0);
        DUE.is(7, "state", x.order(0, 5), 1);
        DUE.is(7, "not OPEN, not WILLING", x.order(0, 6), 0);
        DUE.is(7, "SIZE left", x.order(0, 1), 2);
        for (int o : new int[] {-1, 4, 24, 31, 32, Integer.MIN_VALUE, Integer.MAX_VALUE}) DUE.throwsNone(7, x, o, 0);
        for (int w : new int[] {-1, 9, Integer.MIN_VALUE, Integer.MAX_VALUE}) DUE.throwsNone(7, x, 0, w);
        DUE.is(7, "a throw changes nothing", x.now(8), 2);
    }

    private static void ranks() {
        BlockCross x = Due.desk("mid 5;buy 4 1 5 1;sell 9 1 9 2;buy 4 4 0 0;sell 12 2 5 3;buy 4 1 1 1;");
        int[] want = {3, 1, 0, 2, 4, -1};
        for (int k = 0; k < 6; k++) DUE.is(8, "rank(" + k + ")", x.rank(k), want[k]);
        DUE.is(8, "rank(-1)", x.rank(-1), -1);
        DUE.is(8, "rank(MAX)", x.rank(Integer.MAX_VALUE), -1);
        x.withdraw(1);
        x.run();
        // 0 bought its 4 and is DONE; 3 has 8 left
        int[] then = {3, 2, 4, -1};
        for (int k = 0; k < 4; k++) DUE.is(8, "then rank(" + k + ")", x.rank(k), then[k]);
    }

    private static void chosenIs(BlockCross x, int mid, int volume, int set) {
        DUE.is(9, "chosen(" + mid + ",0)", x.chosen(mid, 0), volume);
        DUE.is(9, "chosen(" + mid + ",1)", x.chosen(mid, 1), set);
    }

    private static void chosenByVolume() {
        BlockCross x = Due.desk("mid 0;buy 50 50 10 0;sell 30 1 10 1;sell 25 25 12 2;sell 20 20 10 3;");
        chosenIs(x, 10, 50, 1 | 2 | 8);
        chosenIs(x, 9, 0, 0);
        chosenIs(x, 11, 0, 0);
        x.amend(0, 1, 12);
        // 30/1, 25/25 and 20/20 sold to 50/50: all three fit, with 5 of the first
        chosenIs(x, 12, 50, 15);
        for (int m : new int[] {-1, 1000, Integer.MIN_VALUE, Integer.MAX_VALUE}) DUE.is(9, "chosen(" + m + ",0)", x.chosen(m, 0), -1);
        for (int w : new int[] {-1, 2, Integer.MIN_VALUE, Integer.MAX_VALUE}) DUE.is(9, "chosen(5," + w + ")", x.chosen(5, w), -1);
        DUE.is(9, "chosen(0,0)", x.chosen(0, 0), 0);
        DUE.is(9, "chosen(999,1)", x.chosen(999, 1), 0);
    }

    private static void chosenByRank() {
        // like VOLUMES: the greater SIZE, then the smaller number, then more ORDERS rather than fewer
        chosenIs(Due.desk("mid 5;sell 10 10 5 1;sell 10 10 5 2;buy 10 10 5 0;"), 5, 10, 5);
        chosenIs(Due.desk("mid 5;sell 10 10 5 1;sell 12 10 5 2;buy 10 10 5 0;"), 5, 10, 6);
        chosenIs(Due.desk("mid 5;sell 10 1 5 1;sell 10 1 5 2;buy 10 10 5 0;"), 5, 10, 7);
        // one of 10 beats the two of 6 and 4 that give as much
        chosenIs(Due.desk("mid 5;sell 6 6 5 1;sell 4 4 5 2;sell 10 10 5 3;buy 10 10 5 0;"), 5, 10, 12);
        // more VOLUME beats RANK
        chosenIs(Due.desk("mid 5;sell 6 6 5 1;sell 5 5 5 2;sell 10 10 5 3;buy 11 1 5 0;"), 5, 11, 11);
        // RANK goes by what is left: the first had 20, of which 12 went
        BlockCross x = Due.desk("mid 5;sell 20 1 5 1;sell 9 9 7 2;buy 12 12 5 0;");
        DUE.is(9, "run()", x.run(), 12);
        x.mid(7);
        x.come(1, 9, 8, 7, 0);
        x.amend(0, 0, 8);
        chosenIs(x, 7, 9, 10);
    }

    private static void firmsApart() {
        chosenIs(Due.desk("mid 5;buy 10 1 5 0;sell 10 1 5 0;"), 5, 0, 0);
        chosenIs(Due.desk("mid 5;buy 10 1 5 0;sell 10 1 5 0;sell 3 1 5 1;"), 5, 3, 5);
        chosenIs(Due.desk("mid 5;buy 10 1 5 0;sell 10 1 5 0;buy 10 1 5 1;sell 10 1 5 1;"), 5, 20, 15);
        // what FIRM 0 sells goes to 1 alone (5), what it buys comes from 1 alone (7)
        chosenIs(Due.desk("mid 5;buy 100 1 5 0;sell 100 1 5 0;buy 5 1 5 1;sell 7 1 5 1;"), 5, 12, 15);
        chosenIs(Due.desk("mid 5;buy 100 8 5 0;sell 100 1 5 0;buy 5 1 5 1;sell 7 1 5 1;"), 5, 5, 6);
        chosenIs(Due.desk("mid 5;buy 100 1 5 0;sell 100 6 5 0;buy 5 1 5 1;sell 7 1 5 1;"), 5, 7, 9);
    }

    private static void fillsAre(BlockCross x, int... want) {
        for (int o = 0; o < want.length; o++) DUE.is(10, "fill(" + o + ")", x.fill(o), want[o]);
        DUE.is(10, "fill, none such", x.fill(want.length), -1);
    }

    private static void fills() {
        fillsAre(Due.desk("mid 5;sell 10 1 5 1;sell 10 1 5 2;buy 10 10 5 0;"), 9, 1, 10);
        fillsAre(Due.desk("mid 5;sell 9 1 5 1;sell 10 3 5 2;buy 10 10 5 0;"), 1, 9, 10);
        fillsAre(Due.desk("mid 5;buy 100 60 5 0;buy 40 10 5 1;sell 80 80 5 2;sell 9 1 6 2;"), 70, 10, 80, 0);
        fillsAre(Due.desk("mid 5;buy 100 1 5 0;sell 100 1 5 0;buy 5 1 5 1;sell 7 1 5 1;"), 7, 5, 5, 7);
        // FIRM 0 buys first by RANK, yet only what FIRM 1 sells
        fillsAre(Due.desk("mid 5;buy 20 1 5 0;buy 10 1 5 1;sell 15 1 5 0;sell 6 1 5 1;"), 6, 10, 10, 6);
        BlockCross x = Due.desk("mid 5;buy 20 1 5 0;sell 10 1 5 1;buy 1 1 5 2;");
        x.withdraw(2);
        fillsAre(x, 10, 10, 0);
        x.run();
        fillsAre(x, 0, 0, 0);
        DUE.is(10, "fill(-1)", x.fill(-1), -1);
        DUE.is(10, "fill(MAX)", x.fill(Integer.MAX_VALUE), -1);
        DUE.is(10, "fill(MIN)", x.fill(Integer.MIN_VALUE), -1);
    }

    private static void whys() {
        BlockCross x = Due.desk("mid 5;buy 10 1 4 0;buy 10 1 5 1;sell 9 1 5 1;");
        DUE.is(11, "not WILLING", x.why(0), 1);
        DUE.is(11, "its own FIRM alone", x.why(1), 2);
        x.come(0, 4, 4, 5, 2);
        x.amend(1, 0, 5);
        DUE.is(11, "too little of others", x.why(1), 3);
        DUE.is(11, "the other can't take so little", x.why(3), 4);
        x.amend(1, 0, 4);
        DUE.is(11, "has a FILL", x.why(1), 0);
        DUE.is(11, "has a FILL", x.why(3), 0);
        DUE.is(11, "its FIRM's buyer is the only one", x.why(2), 2);
        x.withdraw(3);
        DUE.is(11, "WITHDRAWN", x.why(3), -1);
        DUE.is(11, "none such", x.why(4), -1);
        DUE.is(11, "none such", x.why(-1), -1);
        DUE.is(11, "none such", x.why(Integer.MAX_VALUE), -1);
        BlockCross y = Due.desk("mid 5;sell 10 10 5 1;sell 10 10 5 2;buy 10 10 5 0;");
        DUE.is(11, "another SET is CHOSEN", y.why(1), 5);
        DUE.is(11, "CHOSEN", y.why(0), 0);
        y.run();
        DUE.is(11, "DONE", y.why(0), -1);
        DUE.is(11, "nobody is there now", y.why(1), 2);
        BlockCross z = Due.desk("mid 5;buy 10 7 5 0;sell 4 4 5 1;sell 6 6 5 2;sell 10 10 4 0;");
        DUE.is(11, "both sellers", z.why(0), 0);
        z.amend(2, 1, 6);
        DUE.is(11, "all have less than 7", z.why(0), 3);
        DUE.is(11, "the buyer wants more", z.why(1), 4);
        // 4 and 6 are all or none, so 9 can't be given, whoever else takes part
        BlockCross v = Due.desk("mid 5;buy 9 9 5 2;sell 4 4 5 1;sell 6 6 5 3;buy 10 2 5 0;");
        DUE.is(11, "in no SET, though others trade", v.why(0), 4);
        DUE.is(11, "CHOSEN", v.why(3), 0);
        v.amend(0, 0, 7);
        v.amend(3, 0, 10);
        DUE.is(11, "still all or none", v.why(0), 4);
        v.amend(1, 0, 1);
        DUE.is(11, "it could take 6 and 3", v.why(0), 5);
    }

    private static void volumes() {
        BlockCross x = Due.desk("mid 5;buy 10 4 5 0;sell 10 4 5 0;sell 3 1 5 1;sell 8 5 5 2;buy 5 1 4 3;");
        DUE.is(12, "no ORDERS", x.volume(0), 0);
        DUE.is(12, "one FIRM", x.volume(3), -2);
        DUE.is(12, "less than its LEAST", x.volume(5), -2);
        DUE.is(12, "one side", x.volume(12), -2);
        DUE.is(12, "one alone", x.volume(1), -2);
        DUE.is(12, "8 of 10", x.volume(9), 8);
        DUE.is(12, "10 of 11", x.volume(13), 10);
        DUE.is(12, "its own FIRM's seller with others", x.volume(15), -2);
        DUE.is(12, "not WILLING", x.volume(17), -1);
        DUE.is(12, "none such", x.volume(33), -1);
        DUE.is(12, "none such", x.volume(1 << 24), -1);
        DUE.is(12, "none such", x.volume(Integer.MIN_VALUE), -1);
        DUE.is(12, "none such", x.volume(-1), -1);
        x.withdraw(2);
        DUE.is(12, "WITHDRAWN", x.volume(13), -1);
        x.mid(4);
        DUE.is(12, "sellers not WILLING at 4", x.volume(9), -1);
        DUE.is(12, "no ORDERS", x.volume(0), 0);
    }

    private static void bests() {
        DUE.is(13, "no ORDERS", new BlockCross().best(), 0);
        DUE.is(13, "nothing trades", Due.desk("mid 5;buy 9 1 4 0;sell 9 1 5 1;").best(), 0);
        DUE.is(13, "the seller's LIMIT", Due.desk("mid 5;buy 9 1 40 0;sell 9 1 30 1;").best(), 30);
        DUE.is(13, "at 0", Due.desk("mid 5;buy 9 1 40 0;sell 9 1 0 1;").best(), 0);
        DUE.is(13, "at 999", Due.desk("mid 5;buy 9 1 999 0;sell 9 1 999 1;").best(), 999);
        BlockCross x = Due.desk("mid 5;buy 9 1 40 0;buy 9 1 50 2;sell 5 1 30 1;sell 5 1 35 3;sell 20 1 41 3;");
        DUE.is(13, "best()", x.best(), 35);
        x.amend(0, 1, 30);
        DUE.is(13, "best()", x.best(), 35);
        x.withdraw(1);
        DUE.is(13, "best()", x.best(), 30);
        x.amend(1, 1, 3);
        x.amend(0, 1, 20);
        DUE.is(13, "best()", x.best(), 0);
        DUE.is(13, "the LEAST is what keeps it lower", Due.desk("mid 0;buy 9 9 50 0;sell 5 5 10 1;sell 4 4 20 1;sell 1 1 15 2;").best(), 20);
    }

    private static void weres() {
        BlockCross x = Due.desk("mid 5;buy 10 10 5 0;sell 4 4 5 1;sell 3 3 5 2;buy 9 9 4 3;");
        DUE.is(14, "as it is", x.were(0, 10), 0);
        DUE.is(14, "were(0,8)", x.were(0, 8), 0);
        DUE.is(14, "were(0,7)", x.were(0, 7), 7);
        DUE.is(14, "were(0,1)", x.were(0, 1), 7);
        DUE.is(14, "LEAST stays", x.order(0, 2), 10);
        DUE.is(14, "volume stays", x.chosen(5, 0), 0);
        DUE.is(14, "not WILLING", x.were(3, 1), 0);
        for (int l : new int[] {0, -1, 11, Integer.MAX_VALUE, Integer.MIN_VALUE}) DUE.is(14, "were(0," + l + ")", x.were(0, l), -1);
        DUE.is(14, "none such", x.were(4, 1), -1);
        DUE.is(14, "none such", x.were(-1, 1), -1);
        x.withdraw(2);
        DUE.is(14, "not OPEN", x.were(2, 1), -1);
        DUE.is(14, "were(0,4)", x.were(0, 4), 4);
    }

    private static void worths() {
        BlockCross x = Due.desk("mid 5;buy 10 7 5 0;sell 4 1 5 1;sell 5 1 5 2;sell 2 1 5 3;buy 9 9 4 3;");
        DUE.is(15, "all of it", x.worth(0), 10);
        DUE.is(15, "without it less than 7", x.worth(2), 10);
        DUE.is(15, "10 or 7", x.worth(1), 3);
        DUE.is(15, "10 or 9", x.worth(3), 1);
        DUE.is(15, "not WILLING", x.worth(4), 0);
        DUE.is(15, "none such", x.worth(5), -1);
        DUE.is(15, "none such", x.worth(-1), -1);
        x.withdraw(3);
        DUE.is(15, "not OPEN", x.worth(3), -1);
        DUE.is(15, "9 or none", x.worth(1), 9);
    }

    private static void reaches() {
        BlockCross x = Due.desk("mid 5;buy 10 1 5 0;sell 4 1 5 1;sell 3 1 5 2;buy 6 1 5 3;sell 9 1 6 4;");
        DUE.is(16, "as one of two buyers", x.reach(0), 7);
        DUE.is(16, "as the other", x.reach(3), 6);
        DUE.is(16, "reach(1)", x.reach(1), 4);
        DUE.is(16, "not WILLING", x.reach(4), -1);
        DUE.is(16, "none such", x.reach(5), -1);
        DUE.is(16, "none such", x.reach(-1), -1);
        DUE.is(16, "LEAST stays", x.order(0, 2), 1);
        DUE.is(16, "fill as ever", x.fill(0), 6);
        x.withdraw(1);
        x.withdraw(2);
        DUE.is(16, "none is found", x.reach(0), 0);
        DUE.is(16, "not OPEN", x.reach(1), -1);
        BlockCross y = Due.desk("mid 5;buy 10 10 5 0;sell 4 4 5 1;sell 3 3 5 2;");
        DUE.is(16, "below its LEAST", y.reach(0), 7);
        DUE.is(16, "nothing is changed by it", y.chosen(5, 0), 0);
        DUE.is(16, "nothing is changed by it", y.run(), 0);
        DUE.is(16, "a SIZE of 1", Due.desk("mid 5;buy 1 1 5 0;sell 4 1 5 1;").reach(0), 1);
    }
}

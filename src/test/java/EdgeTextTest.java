/** Boundary cases of promises 1 to 5: a new object, the tape, TOKENS, TEXTS and FAULTS. */
public final class EdgeTextTest {
    private static final Edges EDGES = new Edges("EdgeTextTest", 1, 5);
    private static final String[] OLD = {"tell mid 77;sell 8 2 7 4;buy 9 1 80 2;", "run = 8, mid 78 = 77"};

    public static void main(String[] args) {
        fresh();
        feeds();
        feedOrder();
        ends();
        blanks();
        signsThatAreNoBlanks();
        words();
        numbers();
        signs();
        firstLine();
        sizesAndLeasts();
        limitsAndFirms();
        howManyOrders();
        whatCantCome();
        theEnd();
        firstAndLeast();
        fourHundred();
        readWhole();
        textAnswers();
        allStays();
        newText();
        faultKinds();
        EDGES.finish();
    }

    /** A text that is a TEXT: its MIDPOINT, and of each ORDER {side, SIZE, LEAST, LIMIT, FIRM}. */
    private static void reads(String name, String text, int mid, int[]... orders) {
        int lines = (int) text.chars().filter(c -> c == ';').count();
        StringBuilder b = new StringBuilder("text = " + lines + ", fault = 0, now 2 = " + mid + ", now 0 = " + orders.length + ", now 9 = 0");
        for (int o = 0; o < orders.length; o++) {
            for (int w = 0; w < 5; w++) b.append(", order ").append(o).append(' ').append(w).append(" = ").append(orders[o][w]);
        }
        EDGES.edge(4, name, OLD[0], OLD[1], "type " + text, b.toString());
    }

    private static void faulty(String name, String text, int place, int kind) {
        EDGES.edge(4, name, OLD[0], OLD[1], "type " + text, "~ text = " + (-1 - place) + ", fault = " + kind + ", now 9 = 0");
    }

    private static int[] row(int... fields) { return fields; }

    private static String ten() { return "mid 1;" + "buy 9 1 1 1;".repeat(10); }

    /** A text with blanks behind its head, so that the tail begins at a place. */
    private static String at(String head, int place, String tail) { return head + " ".repeat(place - head.length()) + tail; }

    private static void fresh() {
        EDGES.edge(1, "MIDPOINT 0", "now 2 = 0");
        EDGES.edge(1, "no ORDERS ever", "now 0 = 0");
        EDGES.edge(1, "no ORDERS OPEN", "now 1 = 0, rank 0 = -1");
        EDGES.edge(1, "no ORDER 0", "order 0 0 throws");
        EDGES.edge(1, "an empty tape", "now 9 = 0");
        EDGES.edge(1, "an empty tape is an empty text", "text = 0, fault = 0");
        EDGES.edge(1, "no RUNS", "now 3 = 0, now 4 = 0, now 5 = -1, now 6 = -1, now 7 = 0");
        EDGES.edge(1, "nothing can be undone", "now 8 = 0, undo = -1");
        EDGES.edge(1, "nothing is CHOSEN", "chosen 0 0 = 0, chosen 0 1 = 0, best = 0, run = 0");
    }

    private static void feeds() {
        EDGES.edge(2, "the first twenty", "feed 0 0 0 0 0 = 20, now 9 = 20");
        EDGES.edge(2, "twenty more", "feed 0 0 0 0 0, feed 0 0 0 0 0 = 40");
        EDGES.edge(2, "440 is no more than 440", "21* feed 0 0 0 0 0, feed 0 0 0 0 0 = 440, now 9 = 440");
        EDGES.edge(2, "460 would be more than 440", "22* feed 0 0 0 0 0, ! feed 0 0 0 0 0 = -1");
        EDGES.edge(2, "441 would be more than 440", "22* feed 0 0 0 0 0, end 421, ! feed 0 0 0 0 0 = -1");
        EDGES.edge(2, "420 have room for twenty", "22* feed 0 0 0 0 0, end 420, feed 0 0 0 0 0 = 440");
        EDGES.edge(2, "419 have room for twenty", "22* feed 0 0 0 0 0, end 419, feed 0 0 0 0 0 = 439");
        EDGES.edge(2, "439 have no room", "22* feed 0 0 0 0 0, end 439, ! feed 0 0 0 0 0 = -1");
        EDGES.edge(2, "none come: what is there stays as it was", "type " + at("mid 7;", 421, ""),
            "feed 0x6d696420 0x383b6d69 0x6420393b 0 0 = -1, end 421 = 1, end 6, text = 1, now 2 = 7");
        EDGES.edge(2, "refused once, and then with room", "22* feed 0 0 0 0 0, feed 0 0 0 0 0 = -1, end 0, feed 0 0 0 0 0 = 20");
        EDGES.edge(2, "behind the tape, not in its place", "type mid 1", "feed 0x323b2020 0x20202020 0x20202020 0x20202020 0x20202020 = 25",
            "text = 1, now 2 = 12");
        EDGES.edge(2, "feed is no act", "feed 0 0 0 0 0, now 8 = 0, undo = -1, now 9 = 20");
    }

    private static void feedOrder() {
        // mid 123;buy 9 1 5 1; has twenty bytes
        EDGES.edge(2, "a to e, of each the highest first", "feed 0x6d696420 0x3132333b 0x62757920 0x39203120 0x3520313b = 20",
            "text = 2, now 2 = 123, order 0 0 = 1, order 0 1 = 9, order 0 2 = 1, order 0 3 = 5, order 0 4 = 1");
        EDGES.edge(2, "a number below 0: its highest byte is 255", "feed -1 -1 -1 -1 -1, text = -1, fault = 1");
        EDGES.edge(2, "the lowest byte is the fourth", "feed 0x6d6964ff 0 0 0 0, text = -4");
        EDGES.edge(2, "the third byte", "feed 0x6d69ff20 0 0 0 0, end 4, text = -1");
        EDGES.edge(2, "a blank's bits and the highest one are no blank", "feed -0x5fdfdfe0 0 0 0 0, end 4, text = -1, fault = 1");
        EDGES.edge(2, "no byte of the last number is lost", "feed 0x20202020 0x20202020 0x20202020 0x206d6964 0x20202037, text = -21, fault = 1");
    }

    private static void ends() {
        EDGES.edge(3, "all it has", "feed 0 0 0 0 0, end 20 = 1, now 9 = 20");
        EDGES.edge(3, "one less", "feed 0 0 0 0 0, end 19 = 1, now 9 = 19");
        EDGES.edge(3, "one more than it has", "feed 0 0 0 0 0, ! end 21 = 0");
        EDGES.edge(3, "none", "feed 0 0 0 0 0, end 0 = 1, now 9 = 0");
        EDGES.edge(3, "one", "feed 0 0 0 0 0, end 1 = 1, now 9 = 1");
        EDGES.edge(3, "below 0", "feed 0 0 0 0 0, ! end -1 = 0");
        EDGES.edge(3, "far below 0", "feed 0 0 0 0 0, ! end MIN = 0");
        EDGES.edge(3, "far too many", "feed 0 0 0 0 0, ! end MAX = 0");
        EDGES.edge(3, "none of an empty tape", "! end 0 = 1");
        EDGES.edge(3, "one of an empty tape", "! end 1 = 0");
        EDGES.edge(3, "below 0 of an empty tape", "! end -1 = 0");
        EDGES.edge(3, "all 440", "22* feed 0 0 0 0 0, end 440 = 1, now 9 = 440");
        EDGES.edge(3, "441 of 440", "22* feed 0 0 0 0 0, ! end 441 = 0");
        EDGES.edge(3, "what is cut off is gone", "feed 0 0 0 0 0, end 4, ! end 5 = 0");
        EDGES.edge(3, "the first n bytes, no others", "type mid 12;", "end 5 = 1, feed 0x3b202020 0x20202020 0x20202020 0x20202020 0x20202020",
            "text = 1, now 2 = 1");
        EDGES.edge(3, "of a tape that text() has emptied", "tell mid 12;", "end 1 = 0, end 0 = 1");
    }

    private static void blanks() {
        reads("a blank 32 alone", "mid 5;", 5);
        reads("a blank 10 alone", "mid\n5;", 5);
        reads("32 ahead of all", " mid 5;", 5);
        reads("10 ahead of all", "\nmid 5;", 5);
        reads("32 behind all", "mid 5; ", 5);
        reads("10 behind all", "mid 5;\n", 5);
        reads("many together", "mid \n\n  5 \n ;\n \n", 5);
        reads("blanks or not round the sign", "mid 5 ; buy 9 1 4 3\n;\nsell 8 2 6 0;", 5, row(1, 9, 1, 4, 3), row(0, 8, 2, 6, 0));
        reads("10 between all TOKENS", "mid\n5\n;\nbuy\n9\n1\n4\n3\n;", 5, row(1, 9, 1, 4, 3));
        faulty("no blank between WORD and NUMBER: one name", "mid5;", 0, 1);
        faulty("no blank between NUMBERS: another NUMBER", "mid 5;buy 91 4 3;", 16, 1);
        faulty("a blank within a WORD", "mi d 5;", 0, 1);
        faulty("a blank within a NUMBER", "mid 5 5;", 6, 1);
    }

    private static void signsThatAreNoBlanks() {
        for (int c : new int[] {0, 9, 11, 12, 13, 31, 33, 42, 127, 128 + 10, 128 + 32, 255}) {
            faulty("the byte " + c + " behind all", "mid 5;" + (char) c, 6, 1);
            faulty("the byte " + c + " for a blank", "mid" + (char) c + "5;", 3, 1);
        }
    }

    private static void words() {
        // the place tells whether the sign went with the WORD ahead of it
        faulty("a is a small letter", "mid 5;buya 9 1 4 3;", 6, 1);
        faulty("z is a small letter", "mid 5;buyz 9 1 4 3;", 6, 1);
        faulty("0 goes on with a WORD", "mid 5;buy0 9 1 4 3;", 6, 1);
        faulty("9 goes on with a WORD", "mid 5;buy9 9 1 4 3;", 6, 1);
        for (int c : new int[] {'`', '{', '@', '[', 'A', 'Z', '/', ':', 128 + 'y'}) {
            faulty("the byte " + c + " goes not on with a WORD", "mid 5;buy" + (char) c + " 9 1 4 3;", 9, 1);
        }
        faulty("a capital letter ahead", "Mid 5;", 0, 1);
        faulty("a WORD of capital letters", "MID 5;", 0, 1);
        faulty("a letter with the highest bit", (char) (128 + 'm') + "id 5;", 0, 1);
        faulty("mid, a letter short", "mi 5;", 0, 1);
        faulty("mid, a letter more", "midd 5;", 0, 1);
        faulty("mid, another last letter", "mix 5;", 0, 1);
        faulty("mid, another first letter", "bid 5;", 0, 1);
        faulty("buy, a letter short", "mid 5;bu 9 1 4 3;", 6, 1);
        faulty("buy, another last letter", "mid 5;but 9 1 4 3;", 6, 1);
        faulty("buy, another first letter", "mid 5;guy 9 1 4 3;", 6, 1);
        faulty("sell, a letter short", "mid 5;sel 9 1 4 3;", 6, 1);
        faulty("sell, a letter more", "mid 5;sells 9 1 4 3;", 6, 1);
        faulty("sell, another last letter", "mid 5;selz 9 1 4 3;", 6, 1);
        faulty("sell, another first letter", "mid 5;bell 9 1 4 3;", 6, 1);
        faulty("a very long WORD", "m".repeat(380), 0, 1);
        reads("sell is a seller", "mid 5;sell 9 1 4 3;", 5, row(0, 9, 1, 4, 3));
        reads("buy is a buyer", "mid 5;buy 9 1 4 3;", 5, row(1, 9, 1, 4, 3));
    }

    private static void numbers() {
        reads("one digit", "mid 7;", 7);
        reads("two digits", "mid 78;", 78);
        reads("three digits", "mid 789;", 789);
        faulty("four digits are no NUMBER", "mid 7890;", 4, 1);
        faulty("four digits of small value are none either", "mid 0007;", 4, 1);
        faulty("no digits", "mid ;", 4, 1);
        faulty("twenty digits", "mid 11111111111111111111;", 4, 1);
        faulty("digits whose value wraps round to 0", "mid 4294967296;", 4, 1);
        reads("zeros ahead", "mid 007;buy 010 001 000 005;", 7, row(1, 10, 1, 0, 5));
        reads("the digit 0 behind", "mid 10;", 10);
        reads("the digit 9 behind", "mid 19;", 19);
        faulty("/ is no digit", "mid 1/;", 5, 1);
        faulty(": is no digit", "mid 1:;", 5, 1);
        faulty("a letter behind digits", "mid 5a;", 4, 1);
        faulty("z behind digits", "mid 5z;", 4, 1);
        faulty("a letter ahead of digits", "mid a5;", 4, 1);
        faulty("a letter among digits", "mid 5a5;", 4, 1);
        faulty("a sign ahead of digits", "mid -5;", 4, 1);
        faulty("a plus ahead of digits", "mid +5;", 4, 1);
        faulty("a point among digits", "mid 5.5;", 5, 1);
        faulty("a digit with the highest bit", "mid " + (char) (128 + '5') + ";", 4, 1);
    }

    private static void signs() {
        faulty(": for ;", "mid 5:", 5, 1);
        faulty("< for ;", "mid 5<", 5, 1);
        faulty(", for ;", "mid 5,", 5, 1);
        faulty("; with the highest bit", "mid 5" + (char) (128 + ';'), 5, 1);
        faulty("; twice", "mid 5;;", 6, 1);
        faulty("; ahead of all", ";mid 5;", 0, 1);
        faulty("; alone", ";", 0, 1);
        reads("; straight behind a NUMBER and ahead of a WORD", "mid 5;sell 9 1 4 3;buy 8 1 4 3;", 5, row(0, 9, 1, 4, 3), row(1, 8, 1, 4, 3));
    }

    private static void firstLine() {
        reads("V is 0", "mid 0;", 0);
        reads("V is 000", "mid 000;", 0);
        reads("V is 999", "mid 999;", 999);
        faulty("V is 1000", "mid 1000;", 4, 1);
        faulty("the first LINE is buy", "buy 9 1 4 3;", 0, 1);
        faulty("the first LINE is sell", "sell 9 1 4 3;", 0, 1);
        faulty("the first LINE is a NUMBER", "5;", 0, 1);
        faulty("a second mid", "mid 5;mid 6;", 6, 1);
        faulty("mid behind ORDERS", "mid 5;buy 9 1 4 3;mid 6;", 18, 1);
        reads("mid alone", "mid 6;", 6);
    }

    private static void sizesAndLeasts() {
        reads("SIZE 1", "mid 5;buy 1 1 4 3;", 5, row(1, 1, 1, 4, 3));
        reads("SIZE 999", "mid 5;buy 999 1 4 3;", 5, row(1, 999, 1, 4, 3));
        faulty("a buyer's SIZE 0", "mid 5;buy 0 1 4 3;", 10, 2);
        faulty("a seller's SIZE 0", "mid 5;sell 0 1 4 3;", 11, 2);
        faulty("SIZE 0 and LEAST 0", "mid 5;buy 0 0 4 3;", 10, 2);
        faulty("SIZE 000", "mid 5;buy 000 1 4 3;", 10, 2);
        faulty("SIZE 1000", "mid 5;buy 1000 1 4 3;", 10, 1);
        faulty("SIZE 0009", "mid 5;buy 0009 1 4 3;", 10, 1);
        reads("LEAST 1", "mid 5;sell 9 1 4 3;", 5, row(0, 9, 1, 4, 3));
        reads("LEAST as SIZE", "mid 5;sell 9 9 4 3;", 5, row(0, 9, 9, 4, 3));
        reads("LEAST as the greatest SIZE", "mid 5;sell 999 999 4 3;", 5, row(0, 999, 999, 4, 3));
        reads("LEAST one below SIZE", "mid 5;sell 999 998 4 3;", 5, row(0, 999, 998, 4, 3));
        faulty("LEAST 0", "mid 5;sell 9 0 4 3;", 13, 2);
        faulty("LEAST one above SIZE", "mid 5;sell 9 10 4 3;", 13, 2);
        faulty("LEAST 2 of SIZE 1", "mid 5;sell 1 2 4 3;", 13, 2);
        faulty("LEAST 999 of SIZE 998", "mid 5;sell 998 999 4 3;", 15, 2);
        faulty("LEAST 1000", "mid 5;sell 999 1000 4 3;", 15, 1);
        faulty("LEAST 0001", "mid 5;sell 9 0001 4 3;", 13, 1);
        faulty("LEAST above its own SIZE, not that of the ORDER ahead", "mid 5;sell 9 9 4 3;sell 8 9 4 3;", 26, 2);
    }

    private static void limitsAndFirms() {
        reads("LIMIT 0", "mid 5;buy 9 1 0 3;", 5, row(1, 9, 1, 0, 3));
        reads("LIMIT 999", "mid 5;buy 9 1 999 3;", 5, row(1, 9, 1, 999, 3));
        faulty("LIMIT 1000", "mid 5;buy 9 1 1000 3;", 14, 1);
        faulty("LIMIT 0004", "mid 5;buy 9 1 0004 3;", 14, 1);
        reads("FIRM 0", "mid 5;buy 9 1 4 0;", 5, row(1, 9, 1, 4, 0));
        reads("FIRM 5", "mid 5;buy 9 1 4 5;", 5, row(1, 9, 1, 4, 5));
        reads("FIRM 005", "mid 5;buy 9 1 4 005;", 5, row(1, 9, 1, 4, 5));
        faulty("FIRM 6", "mid 5;buy 9 1 4 6;", 16, 2);
        faulty("a seller's FIRM 6", "mid 5;sell 9 1 4 6;", 17, 2);
        faulty("FIRM 999", "mid 5;buy 9 1 4 999;", 16, 2);
        faulty("FIRM 0005", "mid 5;buy 9 1 4 0005;", 16, 1);
    }

    private static void howManyOrders() {
        EDGES.edge(4, "no ORDERS: one LINE", "type mid 5;", "text = 1, now 0 = 0, now 1 = 0");
        EDGES.edge(4, "ten ORDERS: eleven LINES", "type " + ten(), "text = 11, now 0 = 10, now 1 = 1023");
        EDGES.edge(4, "nine ORDERS", "type " + ten().substring(0, 114), "text = 10, now 0 = 9, now 1 = 511");
        EDGES.edge(4, "ORDERS are numbered from 0 on", "type mid 5;buy 7 1 4 3;buy 8 1 4 3;buy 9 1 4 3;",
            "text = 4, order 0 1 = 7, order 1 1 = 8, order 2 1 = 9, order 3 1 throws");
        EDGES.edge(4, "the tenth has the number 9", "type " + ten().substring(0, 114) + "sell 8 2 3 4;", "text = 11",
            "order 9 0 = 0, order 9 1 = 8, order 9 2 = 2, order 9 3 = 3, order 9 4 = 4");
        faulty("an 11th buy, at its WORD", ten() + "buy 9 1 1 1;", 126, 3);
        faulty("an 11th sell, at its WORD", ten() + "sell 9 1 1 1;", 126, 3);
        faulty("an 11th behind blanks, at its WORD", ten() + " \n buy 9 1 1 1;", 129, 3);
        faulty("an 11th that is a WORD alone", ten() + "buy", 126, 3);
        faulty("an 11th and a 12th", ten() + "sell 1 1 1 1;buy 1 1 1 1;", 126, 3);
        reads("blanks behind ten", "mid 5;" + "sell 9 1 4 3;".repeat(10) + " \n", 5, row(0, 9, 1, 4, 3), row(0, 9, 1, 4, 3), row(0, 9, 1, 4, 3),
            row(0, 9, 1, 4, 3), row(0, 9, 1, 4, 3), row(0, 9, 1, 4, 3), row(0, 9, 1, 4, 3), row(0, 9, 1, 4, 3), row(0, 9, 1, 4, 3), row(0, 9, 1, 4, 3));
    }

    private static void whatCantCome() {
        faulty("a WORD for V", "mid mid;", 4, 1);
        faulty("a second NUMBER for ; of the first LINE", "mid 5 6;", 6, 1);
        faulty("a WORD for ; of the first LINE", "mid 5 buy 9 1 4 3;", 6, 1);
        faulty("a NUMBER for the WORD of an ORDER", "mid 5;9 1 4 3;", 6, 1);
        faulty("; for SIZE", "mid 5;buy ;", 10, 1);
        faulty("; for LEAST", "mid 5;buy 9;", 11, 1);
        faulty("; for LIMIT", "mid 5;buy 9 1;", 13, 1);
        faulty("; for FIRM", "mid 5;buy 9 1 4;", 15, 1);
        faulty("a WORD for SIZE", "mid 5;buy buy 1 4 3;", 10, 1);
        faulty("a WORD for LEAST", "mid 5;buy 9 buy 4 3;", 12, 1);
        faulty("a WORD for LIMIT", "mid 5;buy 9 1 buy 3;", 14, 1);
        faulty("a WORD for FIRM", "mid 5;buy 9 1 4 buy;", 16, 1);
        faulty("a NUMBER for ; of an ORDER", "mid 5;buy 9 1 4 3 2;", 18, 1);
        faulty("a WORD for ; of an ORDER", "mid 5;buy 9 1 4 3 sell 9 1 4 3;", 18, 1);
    }

    private static void theEnd() {
        faulty("the end for V", "mid", 3, 1);
        faulty("the end for V behind a blank", "mid ", 4, 1);
        faulty("the end for ; of the first LINE", "mid 5", 5, 1);
        faulty("the end for SIZE", "mid 5;buy", 9, 1);
        faulty("the end for LEAST", "mid 5;buy 9", 11, 1);
        faulty("the end for LIMIT", "mid 5;buy 9 1", 13, 1);
        faulty("the end for FIRM", "mid 5;buy 9 1 4", 15, 1);
        faulty("the end for ; of an ORDER", "mid 5;buy 9 1 4 3", 17, 1);
        faulty("blanks count as bytes there are", "mid 5 \n ", 8, 1);
        faulty("the end of twenty bytes", "mid 123;buy 99 1 5 1", 20, 1);
        reads("the end where a LINE could begin is no FAULT", "mid 5;buy 9 1 4 3;", 5, row(1, 9, 1, 4, 3));
        EDGES.edge(4, "the end at 0: an empty text", OLD[0], OLD[1], "text = 0, fault = 0");
    }

    private static void firstAndLeast() {
        faulty("first along the text: 2 ahead of 1", "mid 5;buy 0 ?", 10, 2);
        faulty("first along the text: 1 ahead of 2", "mid ?;buy 0 1 4 3;", 4, 1);
        faulty("first along the text: of two 2s", "mid 5;buy 9 0 4 6;", 12, 2);
        faulty("first along the text: of two 1s", "mid 5;buy ? ?", 10, 1);
        faulty("first along the text: 2 ahead of the end", "mid 5;buy 0", 10, 2);
        faulty("first along the text: 3 ahead of 2", ten() + "buy 0 1 4 3;", 126, 3);
        faulty("first along the text: 3 ahead of 1", ten() + "buy ?", 126, 3);
        faulty("first along the text: 3 ahead of the end", ten() + "sell", 126, 3);
        faulty("first along the text: 2 ahead of 3", ten().substring(0, 114) + "buy 9 0 1 1;buy 9 1 1 1;", 120, 2);
        faulty("first along the text: 1 ahead of 3", ten().substring(0, 114) + "buy 9 1 1 1 buy 9 1 1 1;", 126, 1);
        faulty("of one TOKEN the least: SIZE 9999 is no TOKEN", "mid 5;buy 9999 1 4 3;", 10, 1);
        faulty("of one TOKEN the least: LEAST 0000 is no TOKEN", "mid 5;buy 9 0000 4 3;", 12, 1);
        faulty("of one TOKEN the least: FIRM 6666 is no TOKEN", "mid 5;buy 9 1 4 6666;", 16, 1);
        faulty("of one TOKEN the least: an 11th ORDER's WORD that is no TOKEN", ten() + "buy9 1 1 1;", 126, 1);
        faulty("of one TOKEN the least: an 11th ORDER's WORD that can't come", ten() + "mid 5;", 126, 1);
        faulty("of one TOKEN the least: another WORD behind ten", ten() + "bux 9 1 1 1;", 126, 1);
        faulty("of one TOKEN the least: ; behind ten", ten() + ";", 126, 1);
        faulty("of one TOKEN the least: a NUMBER behind ten", ten() + "9 1 1 1;", 126, 1);
    }

    private static void fourHundred() {
        reads("400 bytes", at("mid 5;", 400, ""), 5);
        reads("399 bytes", at("mid 5;", 399, ""), 5);
        reads("400 bytes, the last one ;", at("mid 5", 399, ";"), 5);
        reads("400 bytes, an ORDER at their end", at("mid 5;", 388, "buy 9 1 4 3;"), 5, row(1, 9, 1, 4, 3));
        faulty("401 bytes", at("mid 5;", 401, ""), 400, 1);
        faulty("440 bytes", at("mid 5;", 440, ""), 400, 1);
        faulty("401 bytes, the last one ;", at("mid 5", 400, ";"), 400, 1);
        faulty("401 bytes, an ORDER at their end", at("mid 5;", 389, "buy 9 1 4 3;"), 400, 1);
        faulty("401 blanks", at("", 401, ""), 400, 1);
        reads("400 blanks", at("", 400, ""), 0);
        faulty("400 bytes and no ;: the end", at("mid 5", 400, ""), 400, 1);
        faulty("399 bytes and no ;: the end", at("mid 5", 399, ""), 399, 1);
        faulty("401 bytes and no ;", at("mid 5", 401, ""), 400, 1);
        faulty("440 bytes and no V", at("mid", 440, ""), 400, 1);
        faulty("more than 400, a FAULT 1 ahead", at("mid 5;?", 440, ""), 6, 1);
        faulty("more than 400, a FAULT 2 ahead", at("mid 5;buy 0", 440, ""), 10, 2);
        faulty("more than 400, a FAULT 3 ahead", at(ten() + "buy", 440, ""), 126, 3);
        faulty("more than 400, no TOKEN at 400", at("mid 5;", 400, "?"), 400, 1);
        faulty("more than 400, no TOKEN at 399", at("mid 5;", 399, "? "), 399, 1);
        faulty("400 bytes, no TOKEN at 399", at("mid 5;", 399, "?"), 399, 1);
        faulty("an 11th ORDER at 400", at(ten(), 400, "buy 9 1 1 1;"), 400, 1);
        faulty("SIZE 0 at 400", at("mid 5;buy", 400, "0 1 4 3;"), 400, 1);
        faulty("no TOKEN behind 400", at("mid 5;", 420, "?"), 400, 1);
    }

    private static void readWhole() {
        faulty("a WORD from 399 on is read whole", at("mid 5;", 399, "buy 9 1 4 3;"), 400, 1);
        faulty("a WORD from 398 on is read whole", at("mid 5;", 398, "sell 9 1 4 3;"), 400, 1);
        faulty("a WORD from 397 on that ends at 400", at("mid 5;", 397, "buy 9 1 4 3;"), 400, 1);
        faulty("a WORD from 399 on that is another one as a whole", at("mid 5;", 399, "buyx 9 1 4 3;"), 399, 1);
        faulty("a WORD from 397 on that goes on at 400", at("mid 5;", 397, "buys 9 1 4 3;"), 397, 1);
        faulty("a WORD and digits from 399 on", at("mid 5;", 399, "buy9 1 4 3;"), 399, 1);
        faulty("a WORD from 397 on with a digit at 400", at("mid 5;", 397, "buy9 1 4 3;"), 397, 1);
        faulty("mid from 399 on", at("", 399, "mid 5;"), 400, 1);
        faulty("an 11th ORDER from 399 on", at(ten(), 399, "buy 9 1 1 1;"), 399, 3);
        faulty("an 11th ORDER's WORD is no TOKEN as a whole", at(ten(), 399, "buy9 1 1 1;"), 399, 1);
        faulty("a NUMBER from 399 on of three digits", at("mid", 399, "123;"), 400, 1);
        faulty("a NUMBER from 399 on of four digits", at("mid", 399, "1234;"), 399, 1);
        faulty("a NUMBER from 397 on with a fourth digit at 400", at("mid", 397, "1234;"), 397, 1);
        faulty("a NUMBER from 399 on as told as a whole", at("mid 5;buy", 399, "09 1 4 3;"), 400, 1);
        faulty("a NUMBER from 399 on not as told as a whole", at("mid 5;buy 9", 399, "10 4 3;"), 399, 2);
        faulty("digits and a letter from 399 on", at("mid", 399, "1a;"), 399, 1);
        faulty("; at 399, and one byte more", at("mid 5", 399, "; "), 400, 1);
        faulty("a NUMBER up to 440", at("mid", 399, "1".repeat(41)), 399, 1);
        faulty("a WORD up to 440", at("mid 5;", 399, "b".repeat(41)), 399, 1);
    }

    private static void textAnswers() {
        EDGES.edge(4, "a FAULT at 0: -1", "type x", "text = -1");
        EDGES.edge(4, "a FAULT at 1: -2", "type  x", "text = -2");
        EDGES.edge(4, "a FAULT at 400: -401", "type " + at("mid 5;", 401, ""), "text = -401");
        EDGES.edge(4, "one LINE: 1", "type mid 5;", "text = 1");
        EDGES.edge(4, "two LINES: 2", "type mid 5;buy 9 1 4 3;", "text = 2");
        EDGES.edge(4, "the tape is empty then", "type mid 5;", "text = 1, now 9 = 0");
        EDGES.edge(4, "the tape is empty then, even with a FAULT", "type mid 5", "text = -6, now 9 = 0");
        EDGES.edge(4, "so text() behind a FAULT reads an empty text", "tell mid 5;buy 9 1 4 3;", "type x", "text = -1, text = 0, now 0 = 0, now 2 = 0");
        EDGES.edge(4, "what is fed behind it begins at 0", "type mid 5", "text = -6", "type x", "text = -1");
        EDGES.edge(4, "a full tape is empty then, too", "22* feed 0 0 0 0 0, text = -1, now 9 = 0, feed 0 0 0 0 0 = 20");
    }

    private static void allStays() {
        String[] names = {"of kind 1", "of kind 2", "of kind 3", "behind good LINES", "at 400"};
        String[] texts = {"x", "mid 5;buy 0", ten() + "buy", "mid 5;buy 9 1 4 3;buy 9 1 4 3;?", at("mid 5;", 440, "")};
        for (int i = 0; i < names.length; i++) {
            EDGES.edge(4, "a FAULT " + names[i] + ": all stays", OLD[0], OLD[1], "come 1 5 5 3 2, withdraw 2", "type " + texts[i], "~ text, now 0 = 3");
            EDGES.edge(4, "a FAULT " + names[i] + ": what can be undone stays", OLD[0], OLD[1], "type " + texts[i],
                "text, undo = 1, now 2 = 77, undo = 0, order 0 1 = 8, now 3 = 0, undo = -1");
        }
    }

    private static void newText() {
        EDGES.edge(4, "a new TEXT: the ORDERS that were are gone", OLD[0], "tell mid 6;", "now 0 = 0, order 0 0 throws, rank 0 = -1");
        EDGES.edge(4, "a new TEXT: no RUNS", OLD[0], OLD[1], "now 3 = 1", "tell mid 6;", "now 3 = 0, now 4 = 0, now 5 = -1, now 6 = -1, now 7 = 0");
        EDGES.edge(4, "a new TEXT: nothing can be undone", OLD[0], OLD[1], "now 8 = 2", "tell mid 6;", "now 8 = 0, ! undo = -1, now 2 = 6");
        EDGES.edge(4, "a new TEXT: no FILLS, no LEAKS", OLD[0], OLD[1], "order 0 7 = 8, order 0 8 = 4", OLD[0], "order 0 7 = 0, order 0 8 = 0, order 1 7 = 0, order 1 8 = 0");
        EDGES.edge(4, "a new TEXT: all OPEN", OLD[0], OLD[1], "withdraw 1, order 0 5 = 2, order 1 5 = 1", OLD[0], "order 0 5 = 0, order 1 5 = 0");
        EDGES.edge(4, "a new TEXT of the same words", OLD[0], OLD[1], OLD[0], "now 2 = 77, order 0 1 = 8, run = 8");
        EDGES.edge(4, "a new TEXT: 24 ever are counted anew", OLD[0], "10* come 1 1 1 1 1", "tell mid 6;", "now 0 = 0, come 1 1 1 1 1 = 0");
        EDGES.edge(4, "a new TEXT: acts behind it can be undone", OLD[0], OLD[1], "tell mid 6;", "mid 7, now 8 = 1, undo = 0, now 2 = 6, undo = -1");
        EDGES.edge(4, "an empty text: MIDPOINT 0", OLD[0], OLD[1], "text = 0, now 2 = 0");
        EDGES.edge(4, "an empty text: no ORDERS", OLD[0], OLD[1], "text = 0, now 0 = 0, now 1 = 0");
        EDGES.edge(4, "an empty text: no RUNS", OLD[0], OLD[1], "text = 0, now 3 = 0, now 4 = 0, now 5 = -1, now 6 = -1, now 7 = 0");
        EDGES.edge(4, "an empty text: nothing can be undone", OLD[0], OLD[1], "text = 0, now 8 = 0, ! undo = -1");
        EDGES.edge(4, "an empty text of one blank", OLD[0], OLD[1], "type  ", "text = 0, fault = 0, now 0 = 0, now 2 = 0, now 8 = 0");
    }

    private static void faultKinds() {
        EDGES.edge(5, "ahead of any text()", "fault = 0");
        EDGES.edge(5, "ahead of any text(), a faulty tape", "type x", "fault = 0");
        EDGES.edge(5, "without one", "tell mid 5;", "fault = 0");
        EDGES.edge(5, "of an empty text", "text = 0, fault = 0");
        EDGES.edge(5, "kind 1, no TOKEN", "type ?", "text, fault = 1");
        EDGES.edge(5, "kind 1, one that can't come", "type ;", "text, fault = 1");
        EDGES.edge(5, "kind 1, the end", "type mid", "text, fault = 1");
        EDGES.edge(5, "kind 1, more than 400 bytes", "type " + at("mid 5;", 401, ""), "text, fault = 1");
        EDGES.edge(5, "kind 2", "type mid 5;buy 0", "text, fault = 2");
        EDGES.edge(5, "kind 3", "type " + ten() + "buy", "text, fault = 3");
        EDGES.edge(5, "asked twice", "type mid 5;buy 0", "text, fault = 2, fault = 2");
        EDGES.edge(5, "the latest: 1 behind 2", "type mid 5;buy 0", "text", "type x", "text, fault = 1");
        EDGES.edge(5, "the latest: 2 behind 1", "type x", "text", "type mid 5;buy 0", "text, fault = 2");
        EDGES.edge(5, "the latest: none behind 2", "type mid 5;buy 0", "text, fault = 2", "tell mid 5;", "fault = 0");
        EDGES.edge(5, "the latest: an empty text behind 2", "type mid 5;buy 0", "text = -11, fault = 2, text = 0, fault = 0");
        EDGES.edge(5, "stays when the tape is fed and cut", "type mid 5;buy 0", "text, feed 0 0 0 0 0, end 3, fault = 2");
        EDGES.edge(5, "stays through acts and undo()", "type mid 5;buy 0", "text, mid 5, undo = 0, fault = 2");
        EDGES.edge(5, "stays when order() throws", "type mid 5;buy 0", "text, order 0 0 throws, fault = 2");
    }
}

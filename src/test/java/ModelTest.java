import java.util.ArrayList;
import java.util.List;
import java.util.NoSuchElementException;

/** Long runs of drawn calls, each answered by BlockCross and by the Model; the draws are the same every time. */
public final class ModelTest {
    private static final int RUNS = Integer.getInteger("runs", 160);
    private static final int CALLS = 120;
    private static final int[] ENDS = {Integer.MIN_VALUE, Integer.MIN_VALUE + 1, -1000, -2, -1, 0, 1, 9, 10, 23, 24, 31, 32, 33, 63, 64,
        255, 256, 998, 999, 1000, 1001, 1 << 24, 1 << 30, Integer.MAX_VALUE - 1, Integer.MAX_VALUE};
    private static int wrong = 0;

    private long seed;
    private final BlockCross real = new BlockCross();
    private final Model model = new Model();
    private final List<String> told = new ArrayList<>();
    private final int scale;
    private final int prices;
    private final int firms;
    private final boolean texts;

    private ModelTest(int run) {
        seed = run * 7919L + 17;
        scale = new int[] {4, 9, 30, 200, 999}[draw(5)];
        prices = new int[] {3, 8, 999}[draw(3)];
        firms = 2 + draw(5);
        texts = draw(2) == 0;
    }

    public static void main(String[] args) {
        for (int run = 0; run < RUNS && wrong < 5; run++) new ModelTest(run).go(run);
        System.out.println(wrong == 0 ? "ModelTest: all answers are as due" : "ModelTest: wrong");
        if (wrong != 0) System.exit(1);
    }

    private int draw(int n) {
        seed = seed * 6364136223846793005L + 1442695040888963407L;
        return (int) Math.floorMod(seed >>> 33, (long) n);
    }

    private void go(int run) {
        int before = wrong;
        if (run % 2 == 0) askAll(); else wander();
        if (wrong > before) {
            System.out.println("run " + run + ":");
            for (String t : told) System.out.println("  " + t);
        }
    }

    private void wander() {
        int before = wrong;
        if (draw(8) > 0) sendText(goodText());
        for (int i = 0; i < CALLS && told.size() < 500 && wrong == before; i++) {
            if (draw(3) == 0) act(); else ask();
        }
    }

    /** One desk at its own MIDPOINT, asked all there is to ask, through some RUNS. */
    private void askAll() {
        sendText(goodText());
        same("mid(500)", real.mid(500), model.mid(500));
        for (int turn = 0; turn < 3; turn++) {
            same("chosen(500,0)", real.chosen(500, 0), model.chosen(500, 0));
            same("chosen(500,1)", real.chosen(500, 1), model.chosen(500, 1));
            for (int o = 0; o < model.now(0); o++) {
                same("fill(" + o + ")", real.fill(o), model.fill(o));
                same("why(" + o + ")", real.why(o), model.why(o));
                same("worth(" + o + ")", real.worth(o), model.worth(o));
                int l = 1 + draw(scale);
                same("were(" + o + "," + l + ")", real.were(o, l), model.were(o, l));
            }
            for (int i = 0; i < 4; i++) {
                int set = (draw(1 << 24) | draw(1 << 24)) & willing();
                same("volume(" + set + ")", real.volume(set), model.volume(set));
            }
            int o = anyOrder();
            same("reach(" + o + ")", real.reach(o), model.reach(o));
            same("best()", real.best(), model.best());
            same("run()", real.run(), model.run());
            for (int i = 0; i < model.now(0); i++) for (int w = 0; w <= 8; w++) askOrder(i, w);
            for (int w = 0; w <= 9; w++) same("now(" + w + ")", real.now(w), model.now(w));
            if (turn == 1) same("undo()", real.undo(), model.undo());
            for (int i = 0; i < 4; i++) comeDrawn();
        }
    }

    private void same(String call, long got, long want) {
        told.add(call + " -> " + got);
        if (got != want) {
            wrong++;
            told.add("   due is " + want);
        }
    }

    private int size() { return 1 + draw(scale); }

    private int least(int size) {
        int way = draw(4);
        return way == 0 ? size : way == 1 ? 1 + draw(size) : 1 + draw(Math.max(1, size / 3));
    }

    private int price() { return prices == 999 ? draw(1000) : 500 + draw(prices); }

    /** Most limits leave room to trade, so that many ORDERS are WILLING together. */
    private int limit(boolean buys) {
        if (draw(4) == 0) return price();
        return buys ? 500 + prices / 2 + draw(prices / 2 + 1) : 500 - draw(prices / 2 + 1);
    }

    private String goodText() {
        StringBuilder b = new StringBuilder("mid ").append(price()).append(';');
        int n = draw(4) == 0 ? draw(11) : 6 + draw(5);
        for (int i = 0; i < n; i++) {
            int size = size();
            int least = least(size);
            boolean buys = draw(2) == 0;
            int limit = limit(buys);
            b.append(buys ? "buy " : "sell ").append(size).append(draw(6) == 0 ? "\n " : " ").append(least);
            b.append(' ').append(limit).append(' ').append(draw(firms)).append(';');
        }
        return b.toString();
    }

    private String spoilt() {
        StringBuilder b = new StringBuilder(goodText());
        int changes = draw(4);
        String signs = "0123456789 ;;;abuymidsel\n\tXZ{`:/" + (char) 255 + (char) 0;
        for (int i = 0; i < changes && b.length() > 0; i++) {
            int at = draw(b.length());
            int way = draw(4);
            if (way == 0) b.deleteCharAt(at);
            else if (way == 1) b.insert(at, signs.charAt(draw(signs.length())));
            else if (way == 2) b.setCharAt(at, signs.charAt(draw(signs.length())));
            else b.setLength(at);
        }
        if (draw(4) == 0) {
            int to = 395 + draw(20);
            while (b.length() < to) b.insert(draw(4) == 0 ? 0 : b.indexOf(" ") + 1, draw(2) == 0 ? ' ' : '\n');
            if (draw(2) == 0) b.append(new String[] {"buy", "sell 12", ";", "buy 1 1 1 1;", "1234"}[draw(5)]);
        }
        if (draw(6) == 0) b.append("buy 1 1 1 1;sell 2 2 2 2;buy 3 3 3 3;sell 4 4 4 4;");
        if (b.length() > 440) b.setLength(440);
        return b.toString();
    }

    private void sendText(String text) {
        same("end(0)", real.end(0) ? 1 : 0, model.end(0) ? 1 : 0);
        told.add(text.replace("\n", "\\n"));
        for (int at = 0; at < text.length(); at += 20) {
            int[] w = new int[5];
            for (int i = 0; i < 20; i++) {
                int sign = at + i < text.length() ? text.charAt(at + i) : draw(256);
                w[i / 4] = w[i / 4] << 8 | sign;
            }
            same("feed", real.feed(w[0], w[1], w[2], w[3], w[4]), model.feed(w));
        }
        int n = text.length();
        same("end(" + n + ")", real.end(n) ? 1 : 0, model.end(n) ? 1 : 0);
        same("text()", real.text(), model.text());
        same("fault()", real.fault(), model.fault());
    }

    /** Now and then any number at all may be asked for. */
    private int wild(int v) { return draw(24) == 0 ? ENDS[draw(ENDS.length)] : v; }

    private int anyOrder() { return wild(draw(12) == 0 ? draw(40) - 8 : draw(Math.max(1, model.now(0)))); }

    private void act() {
        int o = anyOrder();
        switch (draw(texts ? 14 : 12)) {
            case 0: case 1: case 2: comeDrawn(); break;
            case 3: same("withdraw(" + o + ")", real.withdraw(o), model.withdraw(o)); break;
            case 4: case 5: case 6: {
                int what = wild(draw(15) == 0 ? draw(5) - 1 : draw(2));
                int v = wild(what == 0 ? draw(scale + 2) : draw(12) == 0 ? draw(1100) - 50 : limit(draw(2) == 0));
                same("amend(" + o + "," + what + "," + v + ")", real.amend(o, what, v), model.amend(o, what, v));
                break;
            }
            case 7: {
                int v = wild(draw(12) == 0 ? draw(1100) - 50 : price());
                same("mid(" + v + ")", real.mid(v), model.mid(v));
                break;
            }
            case 8: case 9: same("run()", real.run(), model.run()); break;
            case 10: same("undo()", real.undo(), model.undo()); break;
            case 11: if (draw(2) == 0) same("undo()", real.undo(), model.undo()); break;
            case 12: sendText(spoilt()); break;
            default: if (draw(3) == 0) sendText(goodText()); else stray(); break;
        }
    }

    private void comeDrawn() {
        int size = wild(draw(9) == 0 ? draw(1100) - 50 : size());
        int least = wild(draw(9) == 0 ? draw(1100) - 50 : least(Math.max(1, size)));
        int side = wild(draw(15) == 0 ? draw(5) - 2 : draw(2));
        int limit = wild(draw(15) == 0 ? draw(1100) - 50 : limit(side == 1));
        int firm = wild(draw(15) == 0 ? draw(9) - 1 : draw(firms));
        same("come(" + side + "," + size + "," + least + "," + limit + "," + firm + ")",
            real.come(side, size, least, limit, firm), model.come(side, size, least, limit, firm));
    }

    private void stray() {
        int a = draw(1 << 20) * 4001;
        same("feed(" + a + ")", real.feed(a, -a, ~a, a >> 3, a << 5), model.feed(a, -a, ~a, a >> 3, a << 5));
        int n = wild(draw(30) - 3);
        same("end(" + n + ")", real.end(n) ? 1 : 0, model.end(n) ? 1 : 0);
        if (draw(2) == 0) same("text()", real.text(), model.text());
        same("fault()", real.fault(), model.fault());
    }

    private void ask() {
        int o = anyOrder();
        switch (draw(11)) {
            case 0: askNow(); break;
            case 1: for (int w = 0; w <= 8; w++) askOrder(o, w); askOrder(o, wild(draw(13) - 2)); break;
            case 2: { int k = wild(draw(13) - 1); same("rank(" + k + ")", real.rank(k), model.rank(k)); break; }
            case 3: {
                int m = wild(draw(12) == 0 ? draw(1100) - 50 : price());
                int w = wild(draw(12) == 0 ? draw(6) - 2 : draw(2));
                same("chosen(" + m + "," + w + ")", real.chosen(m, w), model.chosen(m, w));
                break;
            }
            case 4: same("fill(" + o + ")", real.fill(o), model.fill(o)); break;
            case 5: same("why(" + o + ")", real.why(o), model.why(o)); break;
            case 6: {
                int set = (draw(1 << 24) | draw(1 << 24)) & (draw(9) == 0 ? -1 : willing());
                if (draw(30) == 0) set |= 1 << 24 + draw(8);
                set = wild(set);
                same("volume(" + set + ")", real.volume(set), model.volume(set));
                break;
            }
            case 7: if (draw(2) == 0) same("best()", real.best(), model.best()); break;
            case 8: { int l = wild(draw(scale + 2)); same("were(" + o + "," + l + ")", real.were(o, l), model.were(o, l)); break; }
            case 9: same("worth(" + o + ")", real.worth(o), model.worth(o)); break;
            default: if (draw(2) == 0) same("reach(" + o + ")", real.reach(o), model.reach(o)); break;
        }
    }

    private void askNow() {
        for (int w = -1; w <= 10; w++) same("now(" + w + ")", real.now(w), model.now(w));
        int w = wild(0);
        same("now(" + w + ")", real.now(w), model.now(w));
    }

    private int willing() {
        int bits = 0;
        for (int i = 0; i < model.now(0); i++) bits |= model.order(i, 6) << i;
        return bits;
    }

    private void askOrder(int o, int what) {
        long got = 0;
        long want = 0;
        try { got = real.order(o, what); } catch (NoSuchElementException e) { got = -99; }
        try { want = model.order(o, what); } catch (NoSuchElementException e) { want = -99; }
        same("order(" + o + "," + what + ")", got, want);
    }
}

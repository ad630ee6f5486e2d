import java.util.ArrayList;
import java.util.Arrays;
import java.util.List;
import java.util.NoSuchElementException;

/**
 * The document told a second time, as slowly and literally as can be: every SET is tried, each by a flow
 * through a net with least and most quantities, every MIDPOINT is looked at. ModelTest holds BlockCross to it.
 */
final class Model {
    static final class Order {
        int side, size, least, limit, firm, state, filled, leaks;

        Order copy() {
            Order o = new Order();
            o.side = side; o.size = size; o.least = least; o.limit = limit;
            o.firm = firm; o.state = state; o.filled = filled; o.leaks = leaks;
            return o;
        }
    }

    static final class State {
        List<Order> orders = new ArrayList<>();
        int mid, runs, total, lastVolume = -1, lastMid = -1, lastOrders;

        State copy() {
            State s = new State();
            for (Order o : orders) s.orders.add(o.copy());
            s.mid = mid; s.runs = runs; s.total = total;
            s.lastVolume = lastVolume; s.lastMid = lastMid; s.lastOrders = lastOrders;
            return s;
        }
    }

    private State now = new State();
    private final List<State> past = new ArrayList<>();
    private final List<Integer> tape = new ArrayList<>();
    private int fault;

    // ---- the tape and the text

    int feed(int... words) {
        if (tape.size() + 20 > 440) return -1;
        for (int w : words) for (int i = 3; i >= 0; i--) tape.add((w >> (8 * i)) & 0xff);
        return tape.size();
    }

    boolean end(int n) {
        if (n < 0 || n > tape.size()) return false;
        while (tape.size() > n) tape.remove(tape.size() - 1);
        return true;
    }

    private record Token(int place, String text) { }

    private record Fault(int place, int kind) { }

    int text() {
        StringBuilder all = new StringBuilder();
        for (int b : tape) all.append((char) b);
        tape.clear();
        State s = new State();
        List<Token> tokens = tokens(all.toString());
        Fault f = grammar(tokens, s, all.length());
        if (f != null) {
            fault = f.kind;
            return -1 - f.place;
        }
        fault = 0;
        now = s;
        past.clear();
        return (int) tokens.stream().filter(t -> t.text.equals(";")).count();
    }

    private static List<Token> tokens(String all) {
        List<Token> list = new ArrayList<>();
        java.util.regex.Matcher m = java.util.regex.Pattern.compile("[a-z0-9]+|[^ \n]").matcher(all);
        while (m.find()) if (m.start() < 400) list.add(new Token(m.start(), m.group()));
        return list;
    }

    private static Fault grammar(List<Token> tokens, State s, int bytes) {
        int line = 0;
        int step = 0;
        Order o = new Order();
        for (Token t : tokens) {
            boolean word = t.text.matches("[a-z]+");
            boolean number = t.text.matches("[0-9]{1,3}");
            Fault one = new Fault(t.place, 1);
            Fault two = new Fault(t.place, 2);
            int last = line == 0 ? 2 : 5;
            if (!word && !number && !t.text.equals(";")) return one;
            if (step == last) {
                if (!t.text.equals(";")) return one;
                if (line > 0) s.orders.add(o);
                line++;
                step = 0;
                continue;
            }
            if (step == 0) {
                if (line == 0 && !t.text.equals("mid")) return one;
                if (line > 0 && !t.text.equals("buy") && !t.text.equals("sell")) return one;
                if (line == 11) return new Fault(t.place, 3);
                o = new Order();
                o.side = t.text.equals("buy") ? 1 : 0;
                step++;
                continue;
            }
            if (!number) return one;
            int v = Integer.parseInt(t.text);
            if (line == 0) s.mid = v;
            else if (step == 1) { o.size = v; if (v < 1) return two; }
            else if (step == 2) { o.least = v; if (v < 1 || v > o.size) return two; }
            else if (step == 3) o.limit = v;
            else { o.firm = v; if (v > 5) return two; }
            step++;
        }
        if (bytes > 400) return new Fault(400, 1);
        return step == 0 ? null : new Fault(bytes, 1);
    }

    int fault() { return fault; }

    // ---- what stands

    private boolean has(int i) { return i >= 0 && i < now.orders.size(); }

    private boolean open(int i) { return has(i) && now.orders.get(i).state == 0; }

    private boolean willing(int i, int mid) {
        if (!open(i)) return false;
        Order o = now.orders.get(i);
        return o.side == 1 ? o.limit >= mid : o.limit <= mid;
    }

    private int bits(int mid) {
        int b = 0;
        for (int i = 0; i < now.orders.size(); i++) if (mid < 0 ? open(i) : willing(i, mid)) b |= 1 << i;
        return b;
    }

    int now(int what) {
        int[] all = {now.orders.size(), bits(-1), now.mid, now.runs, now.total, now.lastVolume, now.lastMid,
            now.lastOrders, past.size(), tape.size()};
        return what < 0 || what > 9 ? -1 : all[what];
    }

    int order(int i, int what) {
        if (!has(i) || what < 0 || what > 8) throw new NoSuchElementException();
        Order o = now.orders.get(i);
        int[] all = {o.side, o.size, o.least, o.limit, o.firm, o.state, willing(i, now.mid) ? 1 : 0, o.filled, o.leaks};
        return all[what];
    }

    private List<Integer> byRank(int set) {
        List<Integer> list = new ArrayList<>();
        for (int i = 0; i < now.orders.size(); i++) if ((set >> i & 1) == 1) list.add(i);
        list.sort((a, b) -> now.orders.get(b).size != now.orders.get(a).size
            ? now.orders.get(b).size - now.orders.get(a).size : a - b);
        return list;
    }

    int rank(int k) {
        List<Integer> list = byRank(bits(-1));
        return k < 0 || k >= list.size() ? -1 : list.get(k);
    }

    // ---- sets and flows

    /** The volume of a SET by a flow in a net with bounds; -2 if it can't trade. exact below 0: as much as can be. */
    private int flow(List<Integer> set, int[] low, int[] high, int exact) {
        // nodes: 0 source, 1 sink, 2 super source, 3 super sink, 4.. the orders
        int n = set.size() + 4;
        int[][] cap = new int[n][n];
        int big = 1_000_000;
        int demand = 0;
        for (int k = 0; k < set.size(); k++) {
            Order o = now.orders.get(set.get(k));
            int from = o.side == 0 ? 0 : 4 + k;
            int to = o.side == 0 ? 4 + k : 1;
            if (low[k] > high[k]) return -2;
            cap[from][to] += high[k] - low[k];
            cap[2][to] += low[k];
            cap[from][3] += low[k];
            demand += low[k];
            for (int j = 0; j < set.size(); j++) {
                Order p = now.orders.get(set.get(j));
                if (o.side == 0 && p.side == 1 && o.firm != p.firm) cap[4 + k][4 + j] = big;
            }
        }
        if (exact >= 0) {
            cap[2][0] += exact;
            cap[1][3] += exact;
            demand += exact;
            return push(cap, 2, 3) == demand ? exact : -2;
        }
        cap[1][0] = big;
        if (push(cap, 2, 3) != demand) return -2;
        int back = cap[0][1];
        cap[0][1] = 0;
        cap[1][0] = 0;
        return back + push(cap, 0, 1);
    }

    private static int push(int[][] cap, int s, int t) {
        int total = 0;
        while (true) {
            int[] from = new int[cap.length];
            Arrays.fill(from, -1);
            from[s] = s;
            List<Integer> queue = new ArrayList<>(List.of(s));
            for (int q = 0; q < queue.size() && from[t] < 0; q++) {
                for (int v = 0; v < cap.length; v++) {
                    if (from[v] < 0 && cap[queue.get(q)][v] > 0) { from[v] = queue.get(q); queue.add(v); }
                }
            }
            if (from[t] < 0) return total;
            int most = Integer.MAX_VALUE;
            for (int v = t; v != s; v = from[v]) most = Math.min(most, cap[from[v]][v]);
            for (int v = t; v != s; v = from[v]) { cap[from[v]][v] -= most; cap[v][from[v]] += most; }
            total += most;
        }
    }

    private int volumeOf(int set) {
        List<Integer> list = byRank(set);
        int[] low = list.stream().mapToInt(i -> now.orders.get(i).least).toArray();
        int[] high = list.stream().mapToInt(i -> now.orders.get(i).size).toArray();
        return flow(list, low, high, -1);
    }

    /** {VOLUME, ORDERS} of what is CHOSEN among some orders. */
    private int[] choose(int among) {
        int[] best = {0, 0};
        for (int set = among; set > 0; set = (set - 1) & among) {
            int v = volumeOf(set);
            if (v > best[0] || v == best[0] && v > 0 && firstDifferent(set, best[1])) best = new int[] {v, set};
        }
        return best;
    }

    private boolean firstDifferent(int a, int b) {
        List<Integer> list = byRank(a ^ b);
        return !list.isEmpty() && (a >> list.get(0) & 1) == 1;
    }

    /** FILLS by order number. */
    private int[] fills(int volume, int set) {
        int[] fills = new int[24];
        List<Integer> list = byRank(set);
        int[] low = list.stream().mapToInt(i -> now.orders.get(i).least).toArray();
        int[] high = list.stream().mapToInt(i -> now.orders.get(i).size).toArray();
        for (int k = 0; k < list.size(); k++) {
            int least = low[k];
            int x = high[k];
            for (; x >= least; x--) {
                low[k] = x;
                high[k] = x;
                if (flow(list, low, high, volume) == volume) break;
            }
            fills[list.get(k)] = x;
        }
        return fills;
    }

    int chosen(int mid, int what) {
        if (mid < 0 || mid > 999 || what < 0 || what > 1) return -1;
        return choose(bits(mid))[what];
    }

    int fill(int i) {
        if (!has(i)) return -1;
        int[] c = choose(bits(now.mid));
        return fills(c[0], c[1])[i];
    }

    int why(int i) {
        if (!open(i)) return -1;
        if (!willing(i, now.mid)) return 1;
        Order o = now.orders.get(i);
        int sum = 0;
        boolean any = false;
        for (int j = 0; j < now.orders.size(); j++) {
            Order p = now.orders.get(j);
            if (willing(j, now.mid) && p.side != o.side && p.firm != o.firm) { any = true; sum += p.size; }
        }
        if (!any) return 2;
        if (sum < o.least) return 3;
        int all = bits(now.mid);
        boolean some = false;
        for (int set = all; set > 0; set = (set - 1) & all) if ((set >> i & 1) == 1 && volumeOf(set) >= 0) some = true;
        if (!some) return 4;
        return (choose(all)[1] >> i & 1) == 1 ? 0 : 5;
    }

    int volume(int set) {
        if ((set & ~bits(now.mid)) != 0) return -1;
        return volumeOf(set);
    }

    int best() {
        int best = 0;
        int most = -1;
        int before = -1;
        int v = 0;
        for (int m = 0; m <= 999; m++) {
            if (bits(m) != before) v = choose(bits(m))[0];
            before = bits(m);
            if (v > most) { most = v; best = m; }
        }
        return best;
    }

    int were(int i, int least) {
        if (!open(i) || least < 1 || least > now.orders.get(i).size) return -1;
        Order o = now.orders.get(i);
        int was = o.least;
        o.least = least;
        int v = choose(bits(now.mid))[0];
        o.least = was;
        return v;
    }

    int worth(int i) {
        if (!open(i)) return -1;
        int all = bits(now.mid);
        return choose(all)[0] - choose(all & ~(1 << i))[0];
    }

    int reach(int i) {
        if (!willing(i, now.mid)) return -1;
        Order o = now.orders.get(i);
        int was = o.least;
        int low = 0;
        int high = o.size;
        while (low != high) {
            int m = low + (high - low + 1) / 2;
            o.least = m;
            if ((choose(bits(now.mid))[1] >> i & 1) == 1) low = m; else high = m - 1;
        }
        o.least = was;
        return low;
    }

    // ---- acts

    private void keep() {
        past.add(now.copy());
        if (past.size() > 8) past.remove(0);
    }

    int come(int side, int size, int least, int limit, int firm) {
        if (side < 0 || side > 1 || size < 1 || size > 999 || least < 1 || least > size) return -1;
        if (limit < 0 || limit > 999 || firm < 0 || firm > 5) return -1;
        if (Integer.bitCount(bits(-1)) == 10) return -1;
        if (now.orders.size() == 24) return -2;
        keep();
        Order o = new Order();
        o.side = side; o.size = size; o.least = least; o.limit = limit; o.firm = firm;
        now.orders.add(o);
        return now.orders.size() - 1;
    }

    int withdraw(int i) {
        if (!open(i)) return -1;
        keep();
        now.orders.get(i).state = 1;
        return now.orders.get(i).size;
    }

    int amend(int i, int what, int v) {
        if (!open(i) || what < 0 || what > 1) return -1;
        Order o = now.orders.get(i);
        if (what == 0 ? v < 1 || v > o.size : v < 0 || v > 999) return -1;
        int was = what == 0 ? o.least : o.limit;
        if (was == v) return -2;
        keep();
        if (what == 0) o.least = v; else o.limit = v;
        return was;
    }

    int mid(int v) {
        if (v < 0 || v > 999) return -1;
        if (v == now.mid) return -2;
        keep();
        int was = now.mid;
        now.mid = v;
        return was;
    }

    int run() {
        int[] c = choose(bits(now.mid));
        if (c[0] == 0) return 0;
        int[] fills = fills(c[0], c[1]);
        keep();
        for (int i = 0; i < now.orders.size(); i++) {
            Order o = now.orders.get(i);
            for (int j = 0; j < now.orders.size(); j++) {
                Order p = now.orders.get(j);
                if (fills[i] > 0 && fills[j] > 0 && o.side != p.side && o.firm != p.firm) o.leaks |= 1 << p.firm;
            }
        }
        for (int i = 0; i < now.orders.size(); i++) {
            Order o = now.orders.get(i);
            if (fills[i] == 0) continue;
            o.size -= fills[i];
            o.filled += fills[i];
            if (o.least > o.size) o.least = o.size;
            if (o.size == 0) o.state = 2;
        }
        now.runs++;
        now.total += c[0];
        now.lastVolume = c[0];
        now.lastMid = now.mid;
        now.lastOrders = 0;
        for (int i = 0; i < 24; i++) if (fills[i] > 0) now.lastOrders |= 1 << i;
        return c[0];
    }

    int undo() {
        if (past.isEmpty()) return -1;
        now = past.remove(past.size() - 1);
        return past.size();
    }
}

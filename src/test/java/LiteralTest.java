import java.util.ArrayList;
import java.util.Arrays;
import java.util.List;
import java.util.Set;
import java.util.TreeSet;

/**
 * Small desks, where every way of giving quantities from sellers to buyers can be tried, one by one, as the words of
 * the document have it, with no flow and no sums. As each LEAST is 1 at least, what ORDERS get tells their SET.
 */
public final class LiteralTest {
    private static final int DRAWN = Integer.getInteger("desks", 3000);
    private static final int TOP = 999;
    private static int wrong = 0;
    private static int desks = 0;
    private static long seed = 20261118;

    private final int n;
    private final int mid;
    private final int[] side;
    private final int[] size;
    private final int[] least;
    private final int[] limit;
    private final int[] firm;
    private final BlockCross real = new BlockCross();

    private LiteralTest(int mid, int[][] rows) {
        this.mid = mid;
        n = rows[0].length;
        side = rows[0];
        size = rows[1];
        least = rows[2];
        limit = rows[3];
        firm = rows[4];
    }

    public static void main(String[] args) {
        for (int n = 1; n <= 4; n++) allOf(n);
        for (int i = 0; i < DRAWN; i++) drawn();
        System.out.println("LiteralTest: " + desks + " desks" + (wrong == 0 ? ", all answers are as due" : ", " + wrong + " wrong"));
        if (wrong != 0) System.exit(1);
    }

    /** Each desk of n ORDERS that are WILLING, of SIZES 1 and 2; FIRMS are named as they first appear. */
    private static void allOf(int n) {
        int ways = 1;
        for (int i = 0; i < n; i++) ways *= 2 * 3;
        for (int way = 0; way < ways; way++) {
            int[][] rows = new int[5][n];
            for (int i = 0, left = way; i < n; i++, left /= 6) {
                rows[0][i] = left % 2;
                rows[1][i] = left / 2 % 3 == 0 ? 1 : 2;
                rows[2][i] = left / 2 % 3 == 2 ? 2 : 1;
            }
            firms(rows, 0, 0);
        }
    }

    private static void firms(int[][] rows, int i, int named) {
        if (i == rows[0].length) {
            int[][] own = new int[5][];
            for (int r = 0; r < 5; r++) own[r] = rows[r].clone();
            new LiteralTest(0, own).check();
            return;
        }
        for (int f = 0; f <= named; f++) {
            rows[4][i] = f;
            firms(rows, i + 1, Math.max(named, f + 1));
        }
    }

    private static void drawn() {
        int n = 4 + draw(3);
        int most = n == 6 ? 3 : 4;
        int names = 2 + draw(3);
        boolean allWilling = draw(2) == 0;
        int[][] rows = new int[5][n];
        for (int i = 0; i < n; i++) {
            rows[0][i] = draw(2);
            rows[1][i] = 1 + draw(most);
            rows[2][i] = draw(2) == 0 ? 1 : 1 + draw(rows[1][i]);
            rows[3][i] = allWilling ? 1 : draw(4);
            rows[4][i] = draw(names);
        }
        new LiteralTest(1, rows).check();
    }

    private static int draw(int n) {
        seed = seed * 6364136223846793005L + 1442695040888963407L;
        return (int) Math.floorMod(seed >>> 33, (long) n);
    }

    private void due(String call, int got, int want) {
        if (got == want) return;
        wrong++;
        System.out.println("LiteralTest: mid " + mid + ", sides " + Arrays.toString(side) + ", SIZES " + Arrays.toString(size) + ", LEASTS "
            + Arrays.toString(least) + ", LIMITS " + Arrays.toString(limit) + ", FIRMS " + Arrays.toString(firm)
            + ": " + call + " answered " + got + ", due is " + want);
    }

    private boolean willing(int i, int price) { return side[i] == 1 ? limit[i] >= price : limit[i] <= price; }

    private boolean pair(int i, int j) { return side[i] != side[j] && firm[i] != firm[j]; }

    private List<Integer> byRank() {
        List<Integer> list = new ArrayList<>();
        for (int i = 0; i < n; i++) list.add(i);
        list.sort((a, b) -> size[a] != size[b] ? size[b] - size[a] : a - b);
        return list;
    }

    // ---- every way of giving

    /** What ORDERS can have, all together, whatever their LEASTS are. */
    private List<int[]> ways(int price) {
        List<int[]> pairs = new ArrayList<>();
        for (int s = 0; s < n; s++) {
            for (int b = 0; b < n; b++) {
                if (side[s] == 0 && side[b] == 1 && firm[s] != firm[b] && willing(s, price) && willing(b, price)) pairs.add(new int[] {s, b});
            }
        }
        Set<int[]> seen = new TreeSet<>(Arrays::compare);
        give(pairs, 0, new int[n], seen);
        return new ArrayList<>(seen);
    }

    private void give(List<int[]> pairs, int k, int[] got, Set<int[]> seen) {
        if (k == pairs.size()) {
            seen.add(got.clone());
            return;
        }
        int s = pairs.get(k)[0];
        int b = pairs.get(k)[1];
        int q = 0;
        while (true) {
            give(pairs, k + 1, got, seen);
            if (got[s] == size[s] || got[b] == size[b]) break;
            q++;
            got[s]++;
            got[b]++;
        }
        got[s] -= q;
        got[b] -= q;
    }

    private boolean keepsLeasts(int[] got) {
        for (int i = 0; i < n; i++) if (got[i] > 0 && got[i] < least[i]) return false;
        return true;
    }

    private int set(int[] got) {
        int bits = 0;
        for (int i = 0; i < n; i++) if (got[i] > 0) bits |= 1 << i;
        return bits;
    }

    private int given(int[] got) {
        int sum = 0;
        for (int i = 0; i < n; i++) if (side[i] == 0) sum += got[i];
        return sum;
    }

    /** The SET that is CHOSEN is ahead of others, and within it the FILLS are ahead of other quantities. */
    private boolean ahead(int[] one, int[] other) {
        if (given(one) != given(other)) return given(one) > given(other);
        for (int i : byRank()) if ((one[i] > 0) != (other[i] > 0)) return one[i] > 0;
        for (int i : byRank()) if (one[i] != other[i]) return one[i] > other[i];
        return false;
    }

    private int[] fills(List<int[]> ways, int without) {
        int[] best = new int[n];
        for (int[] got : ways) {
            if (keepsLeasts(got) && (without < 0 || got[without] == 0) && ahead(got, best)) best = got;
        }
        return best;
    }

    // ---- what the calls must answer

    private void check() {
        desks++;
        real.mid(mid);
        for (int i = 0; i < n; i++) due("come", real.come(side[i], size[i], least[i], limit[i], firm[i]), i);
        List<int[]> ways = ways(mid);
        int[] fills = fills(ways, -1);
        due("chosen(mid, 0)", real.chosen(mid, 0), given(fills));
        due("chosen(mid, 1)", real.chosen(mid, 1), set(fills));
        List<Integer> rank = byRank();
        for (int i = 0; i < n; i++) {
            due("rank(" + i + ")", real.rank(i), rank.get(i));
            due("fill(" + i + ")", real.fill(i), fills[i]);
            due("why(" + i + ")", real.why(i), why(i, ways, fills));
            due("worth(" + i + ")", real.worth(i), given(fills) - given(fills(ways, i)));
        }
        volumes(ways);
        otherLeasts(ways);
        best();
        run(fills);
    }

    private int why(int i, List<int[]> ways, int[] fills) {
        if (fills[i] > 0) return 0;
        if (!willing(i, mid)) return 1;
        int across = 0;
        for (int j = 0; j < n; j++) if (pair(i, j) && willing(j, mid)) across += size[j];
        if (across == 0) return 2;
        if (across < least[i]) return 3;
        for (int[] got : ways) if (keepsLeasts(got) && got[i] > 0) return 5;
        return 4;
    }

    private void volumes(List<int[]> ways) {
        int[] want = new int[1 << n];
        Arrays.fill(want, -2);
        for (int[] got : ways) if (keepsLeasts(got)) want[set(got)] = Math.max(want[set(got)], given(got));
        for (int set = 0; set < 1 << n; set++) {
            for (int i = 0; i < n; i++) if ((set >> i & 1) == 1 && !willing(i, mid)) want[set] = -1;
            due("volume(" + set + ")", real.volume(set), want[set]);
        }
    }

    private void otherLeasts(List<int[]> ways) {
        for (int i = 0; i < n; i++) {
            int was = least[i];
            int reach = 0;
            int[] volumes = new int[size[i] + 1];
            for (least[i] = 1; least[i] <= size[i]; least[i]++) {
                int[] fills = fills(ways, -1);
                volumes[least[i]] = given(fills);
                if (fills[i] > 0) reach = least[i];
            }
            least[i] = was;
            for (int l = 1; l <= size[i]; l++) due("were(" + i + ", " + l + ")", real.were(i, l), volumes[l]);
            due("reach(" + i + ")", real.reach(i), willing(i, mid) ? reach : -1);
        }
    }

    private void best() {
        int best = 0;
        int most = -1;
        int before = -1;
        for (int price = 0; price <= TOP; price++) {
            int bits = 0;
            for (int i = 0; i < n; i++) if (willing(i, price)) bits |= 1 << i;
            if (bits == before) continue;
            before = bits;
            int v = given(fills(ways(price), -1));
            if (v > most) {
                most = v;
                best = price;
            }
        }
        due("best()", real.best(), best);
    }

    private void run(int[] fills) {
        due("run()", real.run(), given(fills));
        due("now(3)", real.now(3), given(fills) > 0 ? 1 : 0);
        due("now(7)", real.now(7), set(fills));
        for (int i = 0; i < n; i++) {
            int leaks = 0;
            for (int j = 0; j < n; j++) if (fills[i] > 0 && fills[j] > 0 && pair(i, j)) leaks |= 1 << firm[j];
            due("order(" + i + ", 1)", real.order(i, 1), size[i] - fills[i]);
            due("order(" + i + ", 2)", real.order(i, 2), Math.min(least[i], size[i] - fills[i]));
            due("order(" + i + ", 5)", real.order(i, 5), fills[i] == size[i] ? 2 : 0);
            due("order(" + i + ", 7)", real.order(i, 7), fills[i]);
            due("order(" + i + ", 8)", real.order(i, 8), leaks);
        }
    }
}

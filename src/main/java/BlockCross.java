import java.util.NoSuchElementException;

/** A block crossing desk. The numbered promises of its document say what each call answers. */
public final class BlockCross {
    public static final int NONE = -1;

    private static final int REFUSED = -2;
    private static final int SELLER = 0;
    private static final int BUYER = 1;
    private static final int OPEN = 0;
    private static final int WITHDRAWN = 1;
    private static final int DONE = 2;
    private static final int MOST_EVER = 24;
    private static final int MOST_OPEN = 10;
    private static final int FIRMS = 6;
    private static final int TOP = 999;

    private final Tape tape;
    private final Reader reader;
    private final Desk desk;
    private final Desk draft;
    private final Cross cross;
    private final Past past;

    public BlockCross() {
        tape = new Tape();
        reader = new Reader(tape);
        desk = new Desk();
        draft = new Desk();
        cross = new Cross(desk);
        past = new Past();
    }

    public int feed(int a, int b, int c, int d, int e) {
        if (!tape.hasRoom()) {
            return NONE;
        }
        tape.put(a);
        tape.put(b);
        tape.put(c);
        tape.put(d);
        tape.put(e);
        return tape.length;
    }

    public boolean end(int n) {
        if (n < 0 || n > tape.length) {
            return false;
        }
        tape.length = n;
        return true;
    }

    public int text() {
        int lines = reader.read(draft);
        tape.length = 0;
        if (lines == NONE) {
            return -1 - reader.place;
        }
        desk.copy(draft);
        past.forget();
        return lines;
    }

    public int fault() {
        return reader.kind;
    }

    public int now(int what) {
        switch (what) {
            case 0: return desk.count;
            case 1: return desk.openOrders();
            case 2: return desk.midpoint;
            case 3: return desk.runs;
            case 4: return desk.total;
            case 5: return desk.latestVolume;
            case 6: return desk.latestMidpoint;
            case 7: return desk.latestOrders;
            case 8: return past.kept;
            case 9: return tape.length;
            default: return NONE;
        }
    }

    public int order(int order, int what) throws NoSuchElementException {
        if (!desk.has(order) || what < 0 || what > 8) {
            throw new NoSuchElementException();
        }
        switch (what) {
            case 0: return desk.side[order];
            case 1: return desk.size[order];
            case 2: return desk.least[order];
            case 3: return desk.limit[order];
            case 4: return desk.firm[order];
            case 5: return desk.state[order];
            case 6: return desk.isWilling(order, desk.midpoint) ? 1 : 0;
            case 7: return desk.filled[order];
            default: return desk.leaks[order];
        }
    }

    public int rank(int k) {
        for (int order = 0; order < desk.count; order++) {
            if (desk.isOpen(order) && desk.openAhead(order) == k) {
                return order;
            }
        }
        return NONE;
    }

    public int chosen(int mid, int what) {
        if (!isPrice(mid) || what < 0 || what > 1) {
            return NONE;
        }
        cross.choose(desk.willingOrders(mid), 0);
        return what == 0 ? cross.volume : cross.set;
    }

    public int fill(int order) {
        if (!desk.has(order)) {
            return NONE;
        }
        cross.choose(desk.willingOrders(desk.midpoint), 0);
        cross.share();
        return cross.shares[order];
    }

    public int why(int order) {
        if (!desk.isOpen(order)) {
            return NONE;
        }
        if (!desk.isWilling(order, desk.midpoint)) {
            return 1;
        }
        int across = desk.sizeAcross(order);
        if (across == 0) {
            return 2;
        }
        if (across < desk.least[order]) {
            return 3;
        }
        int willing = desk.willingOrders(desk.midpoint);
        cross.choose(willing, 0);
        if (isIn(order, cross.set)) {
            return 0;
        }
        cross.choose(willing, 1 << order);
        return cross.volume == 0 ? 4 : 5;
    }

    public int volume(int set) {
        if ((set & ~desk.willingOrders(desk.midpoint)) != 0) {
            return NONE;
        }
        int most = cross.mostOf(set);
        return most == NONE ? REFUSED : most;
    }

    public int best() {
        int best = 0;
        int most = volumeAt(0);
        // Higher up, buyers only go: the VOLUME can rise nowhere but where a seller becomes WILLING.
        for (int order = 0; order < desk.count; order++) {
            if (desk.isOpen(order) && desk.side[order] == SELLER) {
                int price = desk.limit[order];
                int volume = volumeAt(price);
                if (volume > most || volume == most && price < best) {
                    best = price;
                    most = volume;
                }
            }
        }
        return best;
    }

    public int were(int order, int least) {
        if (!desk.isOpen(order) || least < 1 || least > desk.size[order]) {
            return NONE;
        }
        cross.suppose(order, least);
        int volume = volumeAt(desk.midpoint);
        cross.suppose(NONE, 0);
        return volume;
    }

    public int worth(int order) {
        if (!desk.isOpen(order)) {
            return NONE;
        }
        int willing = desk.willingOrders(desk.midpoint);
        cross.choose(willing, 0);
        int with = cross.volume;
        cross.choose(willing & ~(1 << order), 0);
        return with - cross.volume;
    }

    public int reach(int order) {
        if (!desk.isWilling(order, desk.midpoint)) {
            return NONE;
        }
        int willing = desk.willingOrders(desk.midpoint);
        int low = 0;
        int high = desk.size[order];
        while (low < high) {
            int midst = (low + high + 1) / 2;
            cross.suppose(order, midst);
            cross.choose(willing, 0);
            if (isIn(order, cross.set)) {
                low = midst;
            } else {
                high = midst - 1;
            }
        }
        cross.suppose(NONE, 0);
        return low;
    }

    public int come(int side, int size, int least, int limit, int firm) {
        boolean asTold = (side == SELLER || side == BUYER) && size >= 1 && size <= TOP
            && least >= 1 && least <= size && isPrice(limit) && firm >= 0 && firm < FIRMS;
        if (!asTold || Integer.bitCount(desk.openOrders()) >= MOST_OPEN) {
            return NONE;
        }
        if (desk.count >= MOST_EVER) {
            return REFUSED;
        }
        past.keep(desk);
        desk.add(side, size, least, limit, firm);
        return desk.count - 1;
    }

    public int withdraw(int order) {
        if (!desk.isOpen(order)) {
            return NONE;
        }
        past.keep(desk);
        desk.state[order] = WITHDRAWN;
        return desk.size[order];
    }

    public int amend(int order, int what, int v) {
        if (!desk.isOpen(order)) {
            return NONE;
        }
        if (what == 0 && v >= 1 && v <= desk.size[order]) {
            return change(desk.least, order, v);
        }
        if (what == 1 && isPrice(v)) {
            return change(desk.limit, order, v);
        }
        return NONE;
    }

    public int mid(int v) {
        if (!isPrice(v)) {
            return NONE;
        }
        int was = desk.midpoint;
        if (was == v) {
            return REFUSED;
        }
        past.keep(desk);
        desk.midpoint = v;
        return was;
    }

    public int run() {
        cross.choose(desk.willingOrders(desk.midpoint), 0);
        if (cross.volume == 0) {
            return 0;
        }
        cross.share();
        past.keep(desk);
        desk.trade(cross.set, cross.shares, cross.volume);
        return cross.volume;
    }

    public int undo() {
        return past.restore(desk) ? past.kept : NONE;
    }

    private int volumeAt(int price) {
        cross.choose(desk.willingOrders(price), 0);
        return cross.volume;
    }

    /** One cell of an OPEN ORDER's row becomes v, as an act. */
    private int change(int[] row, int order, int v) {
        int was = row[order];
        if (was == v) {
            return REFUSED;
        }
        past.keep(desk);
        row[order] = v;
        return was;
    }

    private static boolean isPrice(int v) {
        return v >= 0 && v <= TOP;
    }

    private static boolean isIn(int order, int set) {
        return (set >>> order & 1) == 1;
    }

    /** The bytes that have been fed and not yet been read. */
    private static final class Tape {
        private static final int ROOM = 440;
        private static final int FEED = 20;

        private final int[] bytes = new int[ROOM];
        private int length;

        private boolean hasRoom() {
            return length + FEED <= ROOM;
        }

        private void put(int number) {
            for (int shift = 24; shift >= 0; shift -= 8) {
                if (length >= 0 && length < ROOM) {
                    bytes[length] = number >>> shift & 255;
                    length++;
                }
            }
        }

        private int byteAt(int i) {
            return i >= 0 && i < length && i < ROOM ? bytes[i] : NONE;
        }
    }

    /** Reads the tape as a TEXT, or finds its first FAULT. */
    private static final class Reader {
        private static final int MOST_BYTES = 400;
        private static final int MOST_DIGITS = 3;
        private static final int NO_TOKEN = 0;
        private static final int END = 1;
        private static final int SIGN = 2;
        private static final int WORD = 3;
        private static final int NUMBER = 4;

        private final Tape tape;
        private int at;
        private int start;
        private int token;
        private int value;
        private int kind;
        private int place;

        private Reader(Tape tape) {
            this.tape = tape;
        }

        /** How many LINES there are, the draft being what they tell; NONE with a FAULT. */
        private int read(Desk draft) {
            draft.clear();
            at = 0;
            kind = 0;
            for (int lines = 0; lines <= MOST_OPEN + 1; lines++) {
                scan();
                if (token == END && tape.length <= MOST_BYTES) {
                    return lines;
                }
                if (!(lines == 0 ? readMid(draft) : readOrder(draft))) {
                    return NONE;
                }
            }
            return NONE;
        }

        private boolean readMid(Desk draft) {
            if (!spells("mid")) {
                return refuse(1);
            }
            if (!readNumber(0, TOP)) {
                return false;
            }
            draft.midpoint = value;
            return readSign();
        }

        private boolean readOrder(Desk draft) {
            boolean buys = spells("buy");
            if (!buys && !spells("sell")) {
                return refuse(1);
            }
            if (draft.count >= MOST_OPEN) {
                return refuse(3);
            }
            if (!readNumber(1, TOP)) {
                return false;
            }
            int size = value;
            if (!readNumber(1, size)) {
                return false;
            }
            int least = value;
            if (!readNumber(0, TOP)) {
                return false;
            }
            int limit = value;
            if (!readNumber(0, FIRMS - 1)) {
                return false;
            }
            draft.add(buys ? BUYER : SELLER, size, least, limit, value);
            return readSign();
        }

        private boolean readNumber(int least, int most) {
            scan();
            if (token != NUMBER) {
                return refuse(1);
            }
            return value >= least && value <= most || refuse(2);
        }

        private boolean readSign() {
            scan();
            return token == SIGN || refuse(1);
        }

        /** Notes a FAULT at the TOKEN that has been scanned; always false. */
        private boolean refuse(int fault) {
            kind = fault;
            place = start;
            return false;
        }

        private void scan() {
            // A TOKEN has to begin ahead of the 400th byte, but may go on behind it.
            int bound = Math.min(tape.length, MOST_BYTES);
            while (at < bound && isBlank(tape.byteAt(at))) {
                at++;
            }
            start = Math.min(at, bound);
            if (at >= bound) {
                token = END;
            } else if (tape.byteAt(at) == ';') {
                token = SIGN;
                at++;
            } else {
                scanName();
            }
        }

        private void scanName() {
            int letters = 0;
            int digits = 0;
            value = 0;
            for (; at < tape.length; at++) {
                int sign = tape.byteAt(at);
                if (isLetter(sign)) {
                    letters++;
                } else if (isDigit(sign)) {
                    digits++;
                    value = digits <= MOST_DIGITS ? value * 10 + sign - '0' : 0;
                } else {
                    break;
                }
            }
            if (letters > 0 && digits == 0) {
                token = WORD;
            } else if (letters == 0 && digits > 0 && digits <= MOST_DIGITS) {
                token = NUMBER;
            } else {
                token = NO_TOKEN;
            }
        }

        private boolean spells(String word) {
            if (token != WORD || at - start != word.length()) {
                return false;
            }
            for (int i = 0; i < word.length(); i++) {
                if (tape.byteAt(start + i) != word.charAt(i)) {
                    return false;
                }
            }
            return true;
        }

        private static boolean isBlank(int sign) {
            return sign == 32 || sign == 10;
        }

        private static boolean isLetter(int sign) {
            return sign >= 'a' && sign <= 'z';
        }

        private static boolean isDigit(int sign) {
            return sign >= '0' && sign <= '9';
        }
    }

    /** The ORDERS and all else that acts change and undo() brings back. */
    private static final class Desk {
        private final int[] side = new int[MOST_EVER];
        private final int[] size = new int[MOST_EVER];
        private final int[] least = new int[MOST_EVER];
        private final int[] limit = new int[MOST_EVER];
        private final int[] firm = new int[MOST_EVER];
        private final int[] state = new int[MOST_EVER];
        private final int[] filled = new int[MOST_EVER];
        private final int[] leaks = new int[MOST_EVER];
        private int count;
        private int midpoint;
        private int runs;
        private int total;
        private int latestVolume = NONE;
        private int latestMidpoint = NONE;
        private int latestOrders;

        private void clear() {
            count = 0;
            midpoint = 0;
            runs = 0;
            total = 0;
            latestVolume = NONE;
            latestMidpoint = NONE;
            latestOrders = 0;
        }

        private void copy(Desk other) {
            System.arraycopy(other.side, 0, side, 0, MOST_EVER);
            System.arraycopy(other.size, 0, size, 0, MOST_EVER);
            System.arraycopy(other.least, 0, least, 0, MOST_EVER);
            System.arraycopy(other.limit, 0, limit, 0, MOST_EVER);
            System.arraycopy(other.firm, 0, firm, 0, MOST_EVER);
            System.arraycopy(other.state, 0, state, 0, MOST_EVER);
            System.arraycopy(other.filled, 0, filled, 0, MOST_EVER);
            System.arraycopy(other.leaks, 0, leaks, 0, MOST_EVER);
            count = other.count;
            midpoint = other.midpoint;
            runs = other.runs;
            total = other.total;
            latestVolume = other.latestVolume;
            latestMidpoint = other.latestMidpoint;
            latestOrders = other.latestOrders;
        }

        private void add(int newSide, int newSize, int newLeast, int newLimit, int newFirm) {
            if (count < 0 || count >= MOST_EVER) {
                return;
            }
            side[count] = newSide;
            size[count] = newSize;
            least[count] = newLeast;
            limit[count] = newLimit;
            firm[count] = newFirm;
            state[count] = OPEN;
            filled[count] = 0;
            leaks[count] = 0;
            count++;
        }

        private boolean has(int order) {
            return order >= 0 && order < count && order < MOST_EVER;
        }

        private boolean isOpen(int order) {
            return has(order) && state[order] == OPEN;
        }

        private boolean isWilling(int order, int price) {
            if (!isOpen(order)) {
                return false;
            }
            return side[order] == BUYER ? limit[order] >= price : limit[order] <= price;
        }

        private int openOrders() {
            int orders = 0;
            for (int order = 0; order < count; order++) {
                if (isOpen(order)) {
                    orders |= 1 << order;
                }
            }
            return orders;
        }

        private int willingOrders(int price) {
            int orders = 0;
            for (int order = 0; order < count; order++) {
                if (isWilling(order, price)) {
                    orders |= 1 << order;
                }
            }
            return orders;
        }

        /** Whether one ORDER stands ahead of another by RANK. */
        private boolean isAhead(int one, int other) {
            if (!has(one) || !has(other)) {
                return false;
            }
            return size[one] > size[other] || size[one] == size[other] && one < other;
        }

        private int openAhead(int order) {
            int ahead = 0;
            for (int other = 0; other < count; other++) {
                if (isOpen(other) && isAhead(other, order)) {
                    ahead++;
                }
            }
            return ahead;
        }

        /** What the WILLING ORDERS that could trade with this one have together. */
        private int sizeAcross(int order) {
            int sum = 0;
            for (int other = 0; other < count; other++) {
                if (isWilling(other, midpoint) && has(order) && side[other] != side[order] && firm[other] != firm[order]) {
                    sum += size[other];
                }
            }
            return sum;
        }

        private void trade(int set, int[] shares, int volume) {
            int sellers = firmsOf(set, SELLER);
            int buyers = firmsOf(set, BUYER);
            for (int order = 0; order < count; order++) {
                if (has(order) && order < shares.length && isIn(order, set)) {
                    size[order] -= shares[order];
                    filled[order] += shares[order];
                    least[order] = Math.min(least[order], size[order]);
                    state[order] = size[order] == 0 ? DONE : OPEN;
                    leaks[order] |= (side[order] == BUYER ? sellers : buyers) & ~(1 << firm[order]);
                }
            }
            runs++;
            total += volume;
            latestVolume = volume;
            latestMidpoint = midpoint;
            latestOrders = set;
        }

        private int firmsOf(int set, int ofSide) {
            int firms = 0;
            for (int order = 0; order < count; order++) {
                if (has(order) && isIn(order, set) && side[order] == ofSide) {
                    firms |= 1 << firm[order];
                }
            }
            return firms;
        }
    }

    /**
     * What ORDERS must have (low) and may have (high), summed by side and FIRM.
     *
     * <p>A FIRM's sellers can give to all buyers but its own, so two FIRMS' sellers reach all buyers.
     * A cut of that net parts off one FIRM, one side or nothing, and the few bounds below are all there are.
     * (What a FIRM must sell and must buy is no more together than the most, if each is no more than
     * others may have on the other side.)
     */
    private static final class Sums {
        private final int[] low = new int[2 * FIRMS];
        private final int[] high = new int[2 * FIRMS];
        private final int[] lowOfSide = new int[2];
        private final int[] highOfSide = new int[2];

        private void clear() {
            for (int i = 0; i < 2 * FIRMS; i++) {
                low[i] = 0;
                high[i] = 0;
            }
            for (int side = 0; side < 2; side++) {
                lowOfSide[side] = 0;
                highOfSide[side] = 0;
            }
        }

        private static boolean isCell(int side, int firm) {
            return (side == SELLER || side == BUYER) && firm >= 0 && firm < FIRMS;
        }

        private void addLow(int side, int firm, int quantity) {
            if (isCell(side, firm)) {
                low[side * FIRMS + firm] += quantity;
                lowOfSide[side] += quantity;
            }
        }

        private void addHigh(int side, int firm, int quantity) {
            if (isCell(side, firm)) {
                high[side * FIRMS + firm] += quantity;
                highOfSide[side] += quantity;
            }
        }

        /** The most that can be given together; NONE if not all can have what they must. */
        private int most() {
            int most = Math.min(highOfSide[SELLER], highOfSide[BUYER]);
            int needed = Math.max(lowOfSide[SELLER], lowOfSide[BUYER]);
            for (int firm = 0; firm < FIRMS; firm++) {
                int othersSell = highOfSide[SELLER] - high[firm];
                int othersBuy = highOfSide[BUYER] - high[FIRMS + firm];
                if (low[firm] > othersBuy || low[FIRMS + firm] > othersSell) {
                    return NONE;
                }
                most = Math.min(most, othersSell + othersBuy);
            }
            return needed <= most ? most : NONE;
        }

        /** By how much a FIRM's low on a side could be raised, the most being given together. */
        private int spare(int side, int firm, int most) {
            if (!isCell(side, firm)) {
                return 0;
            }
            int other = 1 - side;
            int across = highOfSide[other] - high[other * FIRMS + firm];
            return Math.min(most - lowOfSide[side], across - low[side * FIRMS + firm]);
        }
    }

    /** Finds what is CHOSEN among ORDERS of the desk, and its FILLS. */
    private static final class Cross {
        private final Desk desk;
        private final Sums sums = new Sums();
        private final int[] ranked = new int[MOST_OPEN];
        private final int[] shares = new int[MOST_EVER];
        private int many;
        private int supposed = NONE;
        private int supposedLeast;
        private int must;
        private int volume;
        private int set;

        private Cross(Desk desk) {
            this.desk = desk;
        }

        /** From now on an ORDER counts as having another LEAST; NONE: each has its own. */
        private void suppose(int order, int least) {
            supposed = order;
            supposedLeast = least;
        }

        /** Finds the SET of some ORDERS that is CHOSEN among those that hold all of needed. */
        private void choose(int orders, int needed) {
            arrange(orders);
            sums.clear();
            for (int k = 0; k < many && k < MOST_OPEN; k++) {
                addSize(ranked[k], 1);
            }
            must = needed;
            volume = 0;
            set = 0;
            descend(0, 0);
        }

        /**
         * Decides the k-th ORDER by RANK and those behind it, the ones ahead being decided.
         * To take one comes before to leave it, so of like VOLUMES the SET that RANK wants is found first.
         */
        private void descend(int k, int taken) {
            int most = sums.most();
            if (most <= volume) {
                return;
            }
            if (k < 0 || k >= many || k >= MOST_OPEN) {
                volume = most;
                set = taken;
                return;
            }
            int order = ranked[k];
            addLeast(order, 1);
            descend(k + 1, taken | 1 << order);
            addLeast(order, -1);
            if (!isIn(order, must)) {
                addSize(order, -1);
                descend(k + 1, taken);
                addSize(order, 1);
            }
        }

        /** The VOLUME of some ORDERS as one SET; NONE if it can't TRADE. */
        private int mostOf(int orders) {
            gather(orders);
            return sums.most();
        }

        /** Finds the FILLS of the SET that was CHOSEN. */
        private void share() {
            for (int order = 0; order < MOST_EVER; order++) {
                shares[order] = 0;
            }
            gather(set);
            for (int k = 0; k < many && k < MOST_OPEN; k++) {
                int order = ranked[k];
                if (desk.has(order) && isIn(order, set)) {
                    int least = leastOf(order);
                    int spare = sums.spare(desk.side[order], desk.firm[order], volume);
                    int more = Math.min(spare, desk.size[order] - least);
                    sums.addLow(desk.side[order], desk.firm[order], more);
                    shares[order] = least + more;
                }
            }
        }

        /** Puts some ORDERS into a row by RANK. */
        private void arrange(int orders) {
            many = 0;
            for (int order = 0; order < desk.count; order++) {
                if (isIn(order, orders) && many < MOST_OPEN) {
                    int k = many;
                    while (k > 0 && desk.isAhead(order, ranked[k - 1])) {
                        ranked[k] = ranked[k - 1];
                        k--;
                    }
                    ranked[k] = order;
                    many++;
                }
            }
        }

        /** The sums are those of just these ORDERS, all of them taken. */
        private void gather(int orders) {
            sums.clear();
            for (int order = 0; order < desk.count; order++) {
                if (isIn(order, orders)) {
                    addLeast(order, 1);
                    addSize(order, 1);
                }
            }
        }

        private void addLeast(int order, int times) {
            if (desk.has(order)) {
                sums.addLow(desk.side[order], desk.firm[order], times * leastOf(order));
            }
        }

        private void addSize(int order, int times) {
            if (desk.has(order)) {
                sums.addHigh(desk.side[order], desk.firm[order], times * desk.size[order]);
            }
        }

        private int leastOf(int order) {
            if (order == supposed) {
                return supposedLeast;
            }
            return desk.has(order) ? desk.least[order] : 0;
        }
    }

    /** The desk as it was ahead of each of the latest acts. */
    private static final class Past {
        private static final int MOST_KEPT = 8;

        private final Desk[] desks = new Desk[MOST_KEPT];
        private int next;
        private int kept;

        private Past() {
            for (int i = 0; i < MOST_KEPT; i++) {
                desks[i] = new Desk();
            }
        }

        private void keep(Desk desk) {
            if (next < 0 || next >= MOST_KEPT || desks[next] == null) {
                return;
            }
            desks[next].copy(desk);
            next = (next + 1) % MOST_KEPT;
            kept = Math.min(kept + 1, MOST_KEPT);
        }

        /** Brings back what was kept last; false if nothing is kept. */
        private boolean restore(Desk desk) {
            int latest = (next + MOST_KEPT - 1) % MOST_KEPT;
            if (kept == 0 || latest < 0 || desks[latest] == null) {
                return false;
            }
            desk.copy(desks[latest]);
            next = latest;
            kept--;
            return true;
        }

        private void forget() {
            kept = 0;
        }
    }
}

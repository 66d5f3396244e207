import java.util.Arrays;

/** Truth among near liars: see README.md; the words in capitals are the document's. */
public final class NearLiars {
    public static final int UNKNOWN = -1, OUTSIDE = -2, STATE = -3, NONE = -9;

    private static final int LEAST_NODES = 2;
    private static final int MOST_NODES = 12;
    private static final int MOST_REACH = 3;
    private static final int VALUES = 4;
    private static final int SILENT = 4;
    private static final int MOST_NEED = 6;
    private static final int MOST_TICKS = 100;
    private static final int MOST_NAMES = 6;
    private static final int MOST_CLAIMS = 8;
    /** The first of the numbers that ask for one value, or for one place of a WAY. */
    private static final int EACH = 10;

    private final Net net;
    private final Run run;
    private final Survey survey;
    private final Names names;
    private final Claims claims;

    public NearLiars() {
        net = new Net();
        run = new Run();
        survey = new Survey();
        names = new Names();
        claims = new Claims();
        run.restart(net);
    }

    // ---- 1 the net

    public int net(int n) {
        if (n < LEAST_NODES || n > MOST_NODES) {
            return OUTSIDE;
        }
        // One row in which nobody reaches another: a NET of one BAND without NEIGHBOURS.
        return layAnew(n, 1, 0);
    }

    public int grid(int w, int h, int r) {
        // Each side is bounded first, so that their product can't wrap around.
        if (w < 1 || w > MOST_NODES || h < 1 || h > MOST_NODES) {
            return OUTSIDE;
        }
        if (w * h < LEAST_NODES || w * h > MOST_NODES || r < 1 || r > MOST_REACH) {
            return OUTSIDE;
        }
        return layAnew(w, h, r);
    }

    public int edge(int a, int b, int v) {
        if (!net.has(a) || !net.has(b)) {
            return UNKNOWN;
        }
        if (v < 0 || v > 1) {
            return OUTSIDE;
        }
        if (a == b) {
            return STATE;
        }
        int was = net.areLinked(a, b) ? 1 : 0;
        net.link(a, b, v == 1);
        claims.forget();
        run.restart(net);
        return was;
    }

    public int neighbours(int n) {
        return net.has(n) ? net.links[n] : UNKNOWN;
    }

    public int dealer(int n, int value) {
        if (!net.has(n)) {
            return UNKNOWN;
        }
        if (!isValue(value)) {
            return OUTSIDE;
        }
        int was = net.dealer;
        net.dealer = n;
        net.value = value;
        net.lies[n] = NONE;
        claims.forget();
        run.restart(net);
        return was;
    }

    public int need(int k) {
        if (k < 1 || k > MOST_NEED) {
            return OUTSIDE;
        }
        int was = net.need;
        net.need = k;
        run.restart(net);
        return was;
    }

    public int lie(int n, int v) {
        if (!net.has(n)) {
            return UNKNOWN;
        }
        if (!isValue(v) && v != SILENT && v != NONE) {
            return OUTSIDE;
        }
        if (n == net.dealer) {
            return STATE;
        }
        int was = net.lies[n];
        net.lies[n] = v;
        run.restart(net);
        return was;
    }

    // ---- 2 runs

    public int begin() {
        int was = run.over;
        run.restart(net);
        return was;
    }

    public int ticks(int n) {
        if (n < 0 || n > MOST_TICKS) {
            return OUTSIDE;
        }
        int took = 0;
        for (int i = 0; i < n; i++) {
            took += run.pass(net);
        }
        return took;
    }

    public int node(int n, int what) {
        if (!net.has(n)) {
            return UNKNOWN;
        }
        if (what >= EACH && what < EACH + VALUES) {
            return run.heardOf(n, what - EACH);
        }
        switch (what) {
            case 0:
                return run.slots[n];
            case 1:
                return run.taken[n];
            case 2:
                return run.since[n];
            case 3:
                return run.heardInAll(n);
            case 4:
                return run.spoken >> n & 1;
            default:
                return OUTSIDE;
        }
    }

    public int band(int y, int what) {
        if (y < 0 || y >= net.bands) {
            return OUTSIDE;
        }
        int honest = net.row(y) & ~net.liars();
        switch (what) {
            case 0:
                return Integer.bitCount(honest);
            case 1:
                return run.right(net, honest);
            case 2:
                return run.misled(net, honest);
            case 3:
                return run.lastTake(net, honest);
            default:
                return OUTSIDE;
        }
    }

    // ---- 3 sets

    public int sort(int set) {
        if (!net.isSet(set)) {
            return OUTSIDE;
        }
        if (!net.isThin(set, net.need)) {
            return 0;
        }
        return net.cut(set, net.need) != 0 ? 1 : 2;
    }

    public int crowded(int set) {
        return net.isSet(set) ? net.leastCrowded(set, net.need) : OUTSIDE;
    }

    public int reached(int set) {
        return net.isSet(set) ? net.spread(set, net.need) : OUTSIDE;
    }

    public int worst(int what) {
        if (what < 0 || what > 3) {
            return OUTSIDE;
        }
        survey.take(net);
        switch (what) {
            case 0:
                return survey.worstSet;
            case 1:
                return survey.worstCut;
            case 2:
                return survey.thin;
            default:
                return survey.stopping;
        }
    }

    public int bears() {
        return net.greatestBorne();
    }

    public int name(int set) {
        if (!net.isSet(set)) {
            return OUTSIDE;
        }
        int cut = net.cut(set, net.need);
        return cut == 0 ? STATE : names.place(cut);
    }

    public int named(int k) {
        return k >= 0 && k < names.count ? names.cuts[k] : OUTSIDE;
    }

    // ---- 4 claims

    public int walk(int n) {
        if (!net.has(n)) {
            return UNKNOWN;
        }
        return claims.canStep(net, n) ? claims.step(n) : STATE;
    }

    public int tell(int v) {
        if (!isValue(v)) {
            return OUTSIDE;
        }
        if (claims.steps < 2 || claims.isTold(v)) {
            return STATE;
        }
        return claims.keep(v);
    }

    public int drop() {
        int had = claims.steps;
        claims.letGo();
        return had;
    }

    public int claim(int k, int what) {
        if (k < 0 || k >= claims.count) {
            return OUTSIDE;
        }
        if (what >= EACH && what < EACH + MOST_NODES) {
            return claims.placeOf(k, what - EACH);
        }
        switch (what) {
            case 0:
                return claims.values[k];
            case 1:
                return claims.lengths[k];
            case 2:
                return claims.sets[k];
            default:
                return OUTSIDE;
        }
    }

    public int proof(int n, int v) {
        if (!net.has(n)) {
            return UNKNOWN;
        }
        return isValue(v) ? claims.mostApart(n, v) : OUTSIDE;
    }

    public int believes(int n) {
        return net.has(n) ? claims.soleGreatest(n, net.need) : UNKNOWN;
    }

    public int many(int what) {
        int honest = net.all() & ~net.liars();
        switch (what) {
            case 0:
                return net.count;
            case 1:
                return net.pairs();
            case 2:
                return Integer.bitCount(net.liars());
            case 3:
                return run.round;
            case 4:
                return run.over;
            case 5:
                return run.right(net, honest);
            case 6:
                return run.misled(net, honest);
            case 7:
                return names.count;
            case 8:
                return claims.count;
            case 9:
                return claims.steps;
            case 10:
                return net.bands;
            default:
                return OUTSIDE;
        }
    }

    // ---- what several calls share

    private int layAnew(int w, int h, int r) {
        net.lay(w, h, r);
        names.forget();
        claims.forget();
        run.restart(net);
        return net.count;
    }

    private static boolean isValue(int v) {
        return v >= 0 && v < VALUES;
    }

    private static boolean isIn(int n, int set) {
        return (set >> n & 1) == 1;
    }

    /** Who is whose NEIGHBOUR, the DEALER, NEED and the LIES; and what follows from these alone. */
    private static final class Net {
        private final int[] links = new int[MOST_NODES];
        private final int[] lies = new int[MOST_NODES];
        private int count;
        private int width;
        private int bands;
        private int dealer;
        private int value;
        private int need;

        Net() {
            value = 0;
            need = 1;
            lay(LEAST_NODES, 1, 0);
        }

        void lay(int w, int h, int r) {
            width = w;
            bands = h;
            count = w * h;
            dealer = 0;
            Arrays.fill(lies, NONE);
            Arrays.fill(links, 0);
            for (int y = 0; y < h; y++) {
                for (int x = 0; x < w; x++) {
                    links[w * y + x] = around(x, y, r);
                }
            }
        }

        private int around(int x, int y, int r) {
            int set = 0;
            for (int row = 0; row < bands; row++) {
                for (int column = 0; column < width; column++) {
                    if (Math.abs(row - y) <= r && Math.abs(column - x) <= r) {
                        set |= 1 << (width * row + column);
                    }
                }
            }
            return set & ~(1 << (width * y + x));
        }

        boolean has(int n) {
            return n >= 0 && n < count;
        }

        boolean areLinked(int a, int b) {
            return isIn(b, links[a]);
        }

        void link(int a, int b, boolean on) {
            links[a] = on ? links[a] | 1 << b : links[a] & ~(1 << b);
            links[b] = on ? links[b] | 1 << a : links[b] & ~(1 << a);
        }

        int pairs() {
            int ends = 0;
            for (int i = 0; i < count; i++) {
                ends += Integer.bitCount(links[i]);
            }
            return ends / 2;
        }

        int all() {
            return (1 << count) - 1;
        }

        int row(int y) {
            return ((1 << width) - 1) << (width * y);
        }

        int liars() {
            int set = 0;
            for (int i = 0; i < count; i++) {
                if (lies[i] != NONE) {
                    set |= 1 << i;
                }
            }
            return set;
        }

        /** The bits above the NODES, the sign among them, count as NODES that there are not. */
        boolean isSet(int set) {
            return (set & ~all()) == 0 && !isIn(dealer, set);
        }

        int leastCrowded(int set, int bound) {
            for (int i = 0; i < count; i++) {
                if (!isIn(i, set) && Integer.bitCount(links[i] & set) >= bound) {
                    return i;
                }
            }
            return NONE;
        }

        boolean isThin(int set, int bound) {
            return leastCrowded(set, bound) == NONE;
        }

        int spread(int set, int bound) {
            int now = (1 << dealer | links[dealer]) & ~set;
            // Each pass but the last brings a NODE more, so that this many are enough.
            for (int pass = 0; pass < MOST_NODES; pass++) {
                int next = withJoining(now, set, bound);
                if (next == now) {
                    break;
                }
                now = next;
            }
            return now;
        }

        private int withJoining(int now, int set, int bound) {
            int found = now;
            for (int i = 0; i < count; i++) {
                if (!isIn(i, set | found) && Integer.bitCount(links[i] & found) >= bound) {
                    found |= 1 << i;
                }
            }
            return found;
        }

        int cut(int set, int bound) {
            return all() & ~set & ~spread(set, bound);
        }

        int greatestBorne() {
            int bound = MOST_NEED;
            for (int set = 0; set <= all(); set++) {
                // A set that does not STOP the value does not with a lesser NEED either (it is
                // no thinner then and more are REACHED): those that are behind us stay so.
                while (bound > 0 && isSet(set) && isThin(set, bound) && cut(set, bound) != 0) {
                    bound--;
                }
            }
            return bound > 0 ? bound : NONE;
        }
    }

    /** Who has heard, TAKEN and said what since the RUN began. */
    private static final class Run {
        private final int[] slots = new int[MOST_NODES];
        private final int[] taken = new int[MOST_NODES];
        private final int[] since = new int[MOST_NODES];
        private final int[] heard = new int[MOST_NODES * VALUES];
        private int round;
        private int over;
        private int spoken;

        Run() {
            round = 1;
            over = 0;
            spoken = 0;
        }

        void restart(Net net) {
            dealSlots(net);
            over = 0;
            spoken = 0;
            Arrays.fill(taken, NONE);
            Arrays.fill(since, NONE);
            Arrays.fill(heard, 0);
            taken[net.dealer] = net.value;
            since[net.dealer] = 0;
        }

        private void dealSlots(Net net) {
            round = 1;
            for (int i = 0; i < net.count; i++) {
                slots[i] = leastFree(slotsNear(net, i));
                round = Math.max(round, slots[i] + 1);
            }
        }

        private int slotsNear(Net net, int n) {
            int used = 0;
            for (int i = 0; i < n; i++) {
                if (net.areLinked(i, n) || (net.links[i] & net.links[n]) != 0) {
                    used |= 1 << slots[i];
                }
            }
            return used;
        }

        private static int leastFree(int used) {
            int slot = 0;
            while (slot < MOST_NODES && isIn(slot, used)) {
                slot++;
            }
            return slot;
        }

        /** One TICK: how many NODES TOOK a value in it. */
        int pass(Net net) {
            int slot = round > 0 ? over % round : 0;
            over++;
            int took = 0;
            // One who TAKES now has no SLOT in common with whom it hears: it can't speak too early.
            for (int i = 0; i < net.count; i++) {
                if (slots[i] == slot && !isIn(i, spoken)) {
                    took += speak(net, i);
                }
            }
            return took;
        }

        private int speak(Net net, int n) {
            int word = net.lies[n] == NONE ? taken[n] : net.lies[n];
            if (!isValue(word)) {
                return 0;
            }
            spoken |= 1 << n;
            int took = 0;
            for (int i = 0; i < net.count; i++) {
                if (net.areLinked(n, i)) {
                    took += hear(net, i, n, word);
                }
            }
            return took;
        }

        private int hear(Net net, int n, int speaker, int word) {
            heard[n * VALUES + word]++;
            if (net.lies[n] != NONE || taken[n] != NONE) {
                return 0;
            }
            if (speaker != net.dealer && heardOf(n, word) < net.need) {
                return 0;
            }
            taken[n] = word;
            since[n] = over;
            return 1;
        }

        int heardOf(int n, int v) {
            return heard[n * VALUES + v];
        }

        int heardInAll(int n) {
            int sum = 0;
            for (int v = 0; v < VALUES; v++) {
                sum += heardOf(n, v);
            }
            return sum;
        }

        /** How many of a set have TAKEN the DEALER's VALUE. */
        int right(Net net, int set) {
            int sum = 0;
            for (int i = 0; i < net.count; i++) {
                if (isIn(i, set) && taken[i] == net.value) {
                    sum++;
                }
            }
            return sum;
        }

        /** How many of a set have TAKEN another value than the DEALER's. */
        int misled(Net net, int set) {
            int sum = 0;
            for (int i = 0; i < net.count; i++) {
                if (isIn(i, set) && taken[i] != NONE && taken[i] != net.value) {
                    sum++;
                }
            }
            return sum;
        }

        int lastTake(Net net, int set) {
            int last = NONE;
            for (int i = 0; i < net.count; i++) {
                if (isIn(i, set)) {
                    if (taken[i] == NONE) {
                        return NONE;
                    }
                    last = Math.max(last, since[i]);
                }
            }
            return last;
        }
    }

    /** All THIN sets, counted, and the WORST of them. */
    private static final class Survey {
        private int worstSet;
        private int worstCut;
        private int thin;
        private int stopping;

        void take(Net net) {
            worstSet = 0;
            worstCut = 0;
            thin = 0;
            stopping = 0;
            for (int set = 0; set <= net.all(); set++) {
                if (net.isSet(set) && net.isThin(set, net.need)) {
                    weigh(set, net.cut(set, net.need));
                }
            }
        }

        private void weigh(int set, int cut) {
            thin++;
            if (cut != 0) {
                stopping++;
            }
            int more = Integer.bitCount(cut) - Integer.bitCount(worstCut);
            int fewer = Integer.bitCount(worstSet) - Integer.bitCount(set);
            // Sets come by their numbers: of like ones the first, the least number, stays.
            if (more > 0 || more == 0 && fewer > 0) {
                worstSet = set;
                worstCut = cut;
            }
        }
    }

    /** The NAMED CUTS, the oldest first. */
    private static final class Names {
        private final int[] cuts = new int[MOST_NAMES];
        private int count;

        void forget() {
            count = 0;
        }

        int place(int cut) {
            for (int i = 0; i < count; i++) {
                if (cuts[i] == cut) {
                    return i;
                }
            }
            if (count >= MOST_NAMES) {
                System.arraycopy(cuts, 1, cuts, 0, MOST_NAMES - 1);
                count = MOST_NAMES - 1;
            }
            cuts[count] = cut;
            count++;
            return count - 1;
        }
    }

    /** The WAY in hand and the CLAIMS, the oldest first; the WAY of CLAIM k begins at k MOST_NODES. */
    private static final class Claims {
        private final int[] hand = new int[MOST_NODES];
        private final int[] ways = new int[MOST_CLAIMS * MOST_NODES];
        private final int[] lengths = new int[MOST_CLAIMS];
        private final int[] sets = new int[MOST_CLAIMS];
        private final int[] values = new int[MOST_CLAIMS];
        private final int[] inner = new int[MOST_CLAIMS];
        private int handSet;
        private int steps;
        private int count;

        void forget() {
            letGo();
            count = 0;
        }

        void letGo() {
            steps = 0;
            handSet = 0;
        }

        boolean canStep(Net net, int n) {
            if (steps == 0) {
                return n == net.dealer;
            }
            // No NODE comes twice, so that a WAY of all there can be has no place left.
            return steps < MOST_NODES && net.areLinked(hand[steps - 1], n) && !isIn(n, handSet);
        }

        int step(int n) {
            hand[steps] = n;
            handSet |= 1 << n;
            steps++;
            return steps;
        }

        boolean isTold(int v) {
            for (int k = 0; k < count; k++) {
                if (values[k] == v && isInHand(k)) {
                    return true;
                }
            }
            return false;
        }

        private boolean isInHand(int k) {
            if (lengths[k] != steps) {
                return false;
            }
            for (int i = 0; i < steps; i++) {
                if (ways[k * MOST_NODES + i] != hand[i]) {
                    return false;
                }
            }
            return true;
        }

        int keep(int v) {
            if (count >= MOST_CLAIMS) {
                forgetOldest();
            }
            System.arraycopy(hand, 0, ways, count * MOST_NODES, MOST_NODES);
            lengths[count] = steps;
            sets[count] = handSet;
            values[count] = v;
            count++;
            letGo();
            return count;
        }

        private void forgetOldest() {
            count = MOST_CLAIMS - 1;
            System.arraycopy(ways, MOST_NODES, ways, 0, count * MOST_NODES);
            System.arraycopy(lengths, 1, lengths, 0, count);
            System.arraycopy(sets, 1, sets, 0, count);
            System.arraycopy(values, 1, values, 0, count);
        }

        int placeOf(int k, int i) {
            return i >= 0 && i < lengths[k] ? ways[k * MOST_NODES + i] : NONE;
        }

        /** PROOF: all choices are tried, of which eight CLAIMS have 256. */
        int mostApart(int n, int v) {
            int found = gatherInner(n, v);
            int best = 0;
            for (int choice = 0; choice < 1 << found; choice++) {
                int size = Integer.bitCount(choice);
                if (size > best && areApart(choice, found)) {
                    best = size;
                }
            }
            return best;
        }

        /** What each fitting WAY has between the DEALER, its first, and the NODE, its last. */
        private int gatherInner(int n, int v) {
            int found = 0;
            for (int k = 0; k < count; k++) {
                if (values[k] == v && placeOf(k, lengths[k] - 1) == n) {
                    inner[found] = sets[k] & ~(1 << n | 1 << placeOf(k, 0));
                    found++;
                }
            }
            return found;
        }

        private boolean areApart(int choice, int found) {
            int used = 0;
            for (int i = 0; i < found; i++) {
                if (isIn(i, choice)) {
                    if ((used & inner[i]) != 0) {
                        return false;
                    }
                    used |= inner[i];
                }
            }
            return true;
        }

        int soleGreatest(int n, int bound) {
            int best = 0;
            int holder = NONE;
            for (int v = 0; v < VALUES; v++) {
                int size = mostApart(n, v);
                if (size == best) {
                    holder = NONE;
                } else if (size > best) {
                    best = size;
                    holder = v;
                }
            }
            return best >= bound ? holder : NONE;
        }
    }
}

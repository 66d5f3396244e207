import java.util.ArrayList;
import java.util.Arrays;
import java.util.Collections;
import java.util.Comparator;
import java.util.List;
import java.util.Map;
import java.util.Random;
import java.util.Set;
import java.util.TreeMap;
import java.util.TreeSet;

/**
 * Runs of calls, drawn from fixed seeds, beside a slow second program that follows the document's
 * words and shares nothing with the class: sets of numbers, maps and lists, no bits, no short cuts.
 */
public final class NearLiarsModelRuns {
    private static final int UNKNOWN = -1, OUTSIDE = -2, STATE = -3, NONE = -9;
    private static final int RUNS = 600;
    private static final int CALLS = 512;
    private static final String[] NAMES = {
        "net", "grid", "edge", "neighbours", "dealer", "need", "lie", "begin", "ticks", "node", "band",
        "sort", "crowded", "reached", "worst", "bears", "name", "named", "walk", "tell", "drop", "claim",
        "proof", "believes", "many",
    };
    private static final int[] ARGUMENTS = {
        1, 3, 3, 1, 2, 1, 2, 0, 1, 2, 2, 1, 1, 1, 1, 0, 1, 1, 1, 1, 0, 2, 2, 1, 1,
    };

    private static final class Claim {
        final List<Integer> way;
        final int value;

        Claim(List<Integer> way, int value) {
            this.way = way;
            this.value = value;
        }
    }

    private static final class Model {
        private int size;
        private int columns;
        private boolean isGrid;
        private List<Set<Integer>> near;
        private int dealer;
        private int value = 0;
        private int need = 1;
        private Map<Integer, Integer> lies;
        private List<Integer> cuts;
        private List<Integer> way;
        private List<Claim> claims;
        private int over;
        private Map<Integer, Integer> taken;
        private Map<Integer, Integer> tookAt;
        private Map<Integer, Map<Integer, Integer>> heard;
        private Set<Integer> spoken;

        Model() {
            fresh(2);
        }

        private int fresh(int n) {
            size = n;
            isGrid = false;
            near = new ArrayList<>();
            for (int i = 0; i < n; i++) {
                near.add(new TreeSet<>());
            }
            dealer = 0;
            lies = new TreeMap<>();
            cuts = new ArrayList<>();
            noClaims();
            beginAnew();
            return n;
        }

        private void noClaims() {
            way = new ArrayList<>();
            claims = new ArrayList<>();
        }

        private void beginAnew() {
            over = 0;
            taken = new TreeMap<>();
            tookAt = new TreeMap<>();
            taken.put(dealer, value);
            tookAt.put(dealer, 0);
            spoken = new TreeSet<>();
            heard = new TreeMap<>();
            for (int i = 0; i < size; i++) {
                heard.put(i, new TreeMap<>());
            }
        }

        private boolean is(int n) {
            return 0 <= n && n < size;
        }

        private static boolean between(int low, long n, int high) {
            return low <= n && n <= high;
        }

        private List<Integer> slots() {
            List<Integer> slots = new ArrayList<>();
            for (int n = 0; n < size; n++) {
                Set<Integer> used = new TreeSet<>();
                for (int m = 0; m < n; m++) {
                    boolean common = false;
                    for (int c = 0; c < size; c++) {
                        common |= near.get(c).contains(m) && near.get(c).contains(n);
                    }
                    if (common || near.get(n).contains(m)) {
                        used.add(slots.get(m));
                    }
                }
                int slot = 0;
                while (used.contains(slot)) {
                    slot++;
                }
                slots.add(slot);
            }
            return slots;
        }

        private int round() {
            return Collections.max(slots()) + 1;
        }

        private int tick() {
            List<Integer> slots = slots();
            int slot = over % round();
            over++;
            Map<Integer, Integer> words = new TreeMap<>();
            for (int n = 0; n < size; n++) {
                if (slots.get(n) != slot || spoken.contains(n)) {
                    continue;
                }
                if (lies.containsKey(n)) {
                    if (lies.get(n) != 4) {
                        words.put(n, lies.get(n));
                    }
                } else if (taken.containsKey(n)) {
                    words.put(n, taken.get(n));
                }
            }
            int took = 0;
            for (int n = 0; n < size; n++) {
                boolean hearing = false;
                for (int speaker : words.keySet()) {
                    if (!near.get(n).contains(speaker)) {
                        continue;
                    }
                    if (hearing) {
                        throw new IllegalStateException("the model: two heard at once");
                    }
                    hearing = true;
                    int word = words.get(speaker);
                    heard.get(n).put(speaker, word);
                    if (lies.containsKey(n) || taken.containsKey(n)) {
                        continue;
                    }
                    if (speaker == dealer || said(n, word) >= need) {
                        taken.put(n, word);
                        tookAt.put(n, over);
                        took++;
                    }
                }
            }
            spoken.addAll(words.keySet());
            return took;
        }

        private int said(int n, int word) {
            return Collections.frequency(heard.get(n).values(), word);
        }

        private List<Integer> bandOf(int y) {
            List<Integer> band = new ArrayList<>();
            for (int n = 0; n < size; n++) {
                if (!isGrid || n / columns == y) {
                    band.add(n);
                }
            }
            return band;
        }

        private int bands() {
            return isGrid ? size / columns : 1;
        }

        /** Of some NODES: HONEST ones, those with the VALUE, those with another, the last TICK. */
        private int[] sums(List<Integer> nodes) {
            int[] sums = {0, 0, 0, NONE};
            boolean all = true;
            for (int n : nodes) {
                if (lies.containsKey(n)) {
                    continue;
                }
                sums[0]++;
                if (!taken.containsKey(n)) {
                    all = false;
                } else {
                    sums[taken.get(n) == value ? 1 : 2]++;
                    sums[3] = Math.max(sums[3], tookAt.get(n));
                }
            }
            if (!all) {
                sums[3] = NONE;
            }
            return sums;
        }

        private Set<Integer> asSet(int bits) {
            if (bits < 0) {
                return null;
            }
            Set<Integer> set = new TreeSet<>();
            for (int n = 0; n < 31; n++) {
                if ((bits >> n) % 2 == 1) {
                    if (!is(n) || n == dealer) {
                        return null;
                    }
                    set.add(n);
                }
            }
            return set;
        }

        private static int asBits(Set<Integer> set) {
            int bits = 0;
            for (int n : set) {
                bits += (int) Math.pow(2, n);
            }
            return bits;
        }

        private int common(Set<Integer> a, Set<Integer> b) {
            Set<Integer> both = new TreeSet<>(a);
            both.retainAll(b);
            return both.size();
        }

        private int crowdedOne(Set<Integer> set, int k) {
            for (int n = 0; n < size; n++) {
                if (!set.contains(n) && common(near.get(n), set) >= k) {
                    return n;
                }
            }
            return NONE;
        }

        private Set<Integer> reach(Set<Integer> set, int k) {
            Set<Integer> reached = new TreeSet<>(near.get(dealer));
            reached.removeAll(set);
            reached.add(dealer);
            boolean more = true;
            while (more) {
                more = false;
                for (int n = size - 1; n >= 0; n--) {
                    if (!set.contains(n) && !reached.contains(n) && common(near.get(n), reached) >= k) {
                        reached.add(n);
                        more = true;
                        break;
                    }
                }
            }
            return reached;
        }

        private Set<Integer> cutOf(Set<Integer> set, int k) {
            Set<Integer> reached = reach(set, k);
            Set<Integer> cut = new TreeSet<>();
            for (int n = 0; n < size; n++) {
                if (!set.contains(n) && !reached.contains(n)) {
                    cut.add(n);
                }
            }
            return cut;
        }

        private List<Integer> thinSets(int k) {
            List<Integer> thin = new ArrayList<>();
            for (int bits = 0; bits < Math.pow(2, size); bits++) {
                Set<Integer> set = asSet(bits);
                if (set != null && crowdedOne(set, k) == NONE) {
                    thin.add(bits);
                }
            }
            return thin;
        }

        private int worstOf(int what) {
            List<Integer> thin = thinSets(need);
            int stopping = 0;
            Map<Integer, Integer> cutSizes = new TreeMap<>();
            for (int bits : thin) {
                int cut = cutOf(asSet(bits), need).size();
                cutSizes.put(bits, cut);
                stopping += cut > 0 ? 1 : 0;
            }
            List<Integer> order = new ArrayList<>(thin);
            order.sort(Comparator.comparing((Integer bits) -> -cutSizes.get(bits))
                .thenComparing(bits -> asSet(bits).size())
                .thenComparing(bits -> bits));
            int[] answers = {order.get(0), asBits(cutOf(asSet(order.get(0)), need)), thin.size(), stopping};
            return answers[what];
        }

        private int bearsMost() {
            for (int k = 6; k >= 1; k--) {
                boolean stopped = false;
                for (int bits : thinSets(k)) {
                    stopped |= !cutOf(asSet(bits), k).isEmpty();
                }
                if (!stopped) {
                    return k;
                }
            }
            return NONE;
        }

        private int nameCut(Set<Integer> set) {
            int cut = asBits(cutOf(set, need));
            if (cut == 0) {
                return STATE;
            }
            if (!cuts.contains(cut)) {
                cuts.add(cut);
                if (cuts.size() > 6) {
                    cuts.remove(0);
                }
            }
            return cuts.indexOf(cut);
        }

        private int tellClaim(int v) {
            if (way.size() < 2) {
                return STATE;
            }
            for (Claim c : claims) {
                if (c.value == v && c.way.equals(way)) {
                    return STATE;
                }
            }
            claims.add(new Claim(way, v));
            if (claims.size() > 8) {
                claims.remove(0);
            }
            way = new ArrayList<>();
            return claims.size();
        }

        private int most(List<Claim> left, Set<Integer> used) {
            if (left.isEmpty()) {
                return 0;
            }
            List<Claim> rest = left.subList(1, left.size());
            List<Integer> first = left.get(0).way;
            Set<Integer> between = new TreeSet<>(first.subList(1, first.size() - 1));
            int without = most(rest, used);
            if (!Collections.disjoint(between, used)) {
                return without;
            }
            between.addAll(used);
            return Math.max(without, 1 + most(rest, between));
        }

        private int proofOf(int n, int v) {
            List<Claim> fit = new ArrayList<>();
            for (Claim c : claims) {
                if (c.value == v && c.way.get(c.way.size() - 1) == n) {
                    fit.add(c);
                }
            }
            return most(fit, new TreeSet<>());
        }

        private int belief(int n) {
            for (int v = 0; v < 4; v++) {
                boolean alone = proofOf(n, v) >= need;
                for (int other = 0; other < 4; other++) {
                    alone &= other == v || proofOf(n, other) < proofOf(n, v);
                }
                if (alone) {
                    return v;
                }
            }
            return NONE;
        }

        int answer(String name, int[] a) {
            switch (name) {
                case "net":
                    return between(2, a[0], 12) ? fresh(a[0]) : OUTSIDE;
                case "grid":
                    return gridOf(a[0], a[1], a[2]);
                case "edge":
                    return edgeOf(a[0], a[1], a[2]);
                case "neighbours":
                    return is(a[0]) ? asBits(near.get(a[0])) : UNKNOWN;
                case "dealer":
                    return dealerOf(a[0], a[1]);
                case "need":
                    return needOf(a[0]);
                case "lie":
                    return lieOf(a[0], a[1]);
                case "begin":
                    int was = over;
                    beginAnew();
                    return was;
                case "ticks":
                    return ticksOf(a[0]);
                case "node":
                    return nodeOf(a[0], a[1]);
                case "band":
                    boolean there = between(0, a[0], bands() - 1) && between(0, a[1], 3);
                    return there ? sums(bandOf(a[0]))[a[1]] : OUTSIDE;
                default:
                    return later(name, a);
            }
        }

        private int later(String name, int[] a) {
            switch (name) {
                case "sort":
                case "crowded":
                case "reached":
                case "name":
                    Set<Integer> set = asSet(a[0]);
                    return set == null ? OUTSIDE : ofSet(name, set);
                case "worst":
                    return between(0, a[0], 3) ? worstOf(a[0]) : OUTSIDE;
                case "bears":
                    return bearsMost();
                case "named":
                    return between(0, a[0], cuts.size() - 1) ? cuts.get(a[0]) : OUTSIDE;
                case "walk":
                    return walkOf(a[0]);
                case "tell":
                    return between(0, a[0], 3) ? tellClaim(a[0]) : OUTSIDE;
                case "drop":
                    int had = way.size();
                    way = new ArrayList<>();
                    return had;
                case "claim":
                    return claimOf(a[0], a[1]);
                case "proof":
                    return !is(a[0]) ? UNKNOWN : between(0, a[1], 3) ? proofOf(a[0], a[1]) : OUTSIDE;
                case "believes":
                    return is(a[0]) ? belief(a[0]) : UNKNOWN;
                default:
                    return manyOf(a[0]);
            }
        }

        private int ofSet(String name, Set<Integer> set) {
            switch (name) {
                case "sort":
                    return crowdedOne(set, need) != NONE ? 0 : cutOf(set, need).isEmpty() ? 2 : 1;
                case "crowded":
                    return crowdedOne(set, need);
                case "reached":
                    return asBits(reach(set, need));
                default:
                    return nameCut(set);
            }
        }

        private int gridOf(int w, int h, int r) {
            if (w < 1 || h < 1 || !between(2, (long) w * h, 12) || !between(1, r, 3)) {
                return OUTSIDE;
            }
            fresh(w * h);
            isGrid = true;
            columns = w;
            for (int a = 0; a < size; a++) {
                for (int b = 0; b < size; b++) {
                    int apart = Math.max(Math.abs(a % w - b % w), Math.abs(a / w - b / w));
                    if (a != b && apart <= r) {
                        near.get(a).add(b);
                    }
                }
            }
            return size;
        }

        private int edgeOf(int a, int b, int v) {
            if (!is(a) || !is(b)) {
                return UNKNOWN;
            }
            if (!between(0, v, 1)) {
                return OUTSIDE;
            }
            if (a == b) {
                return STATE;
            }
            int was = near.get(a).contains(b) ? 1 : 0;
            near.get(a).remove(b);
            near.get(b).remove(a);
            if (v == 1) {
                near.get(a).add(b);
                near.get(b).add(a);
            }
            noClaims();
            beginAnew();
            return was;
        }

        private int dealerOf(int n, int v) {
            if (!is(n)) {
                return UNKNOWN;
            }
            if (!between(0, v, 3)) {
                return OUTSIDE;
            }
            int was = dealer;
            dealer = n;
            value = v;
            lies.remove(n);
            noClaims();
            beginAnew();
            return was;
        }

        private int needOf(int k) {
            if (!between(1, k, 6)) {
                return OUTSIDE;
            }
            int was = need;
            need = k;
            beginAnew();
            return was;
        }

        private int lieOf(int n, int v) {
            if (!is(n)) {
                return UNKNOWN;
            }
            if (!between(0, v, 4) && v != NONE) {
                return OUTSIDE;
            }
            if (n == dealer) {
                return STATE;
            }
            int was = lies.getOrDefault(n, NONE);
            lies.remove(n);
            if (v != NONE) {
                lies.put(n, v);
            }
            beginAnew();
            return was;
        }

        private int ticksOf(int n) {
            if (!between(0, n, 100)) {
                return OUTSIDE;
            }
            int took = 0;
            for (int i = 0; i < n; i++) {
                took += tick();
            }
            return took;
        }

        private int nodeOf(int n, int what) {
            if (!is(n)) {
                return UNKNOWN;
            }
            switch (what) {
                case 0:
                    return slots().get(n);
                case 1:
                    return taken.getOrDefault(n, NONE);
                case 2:
                    return tookAt.getOrDefault(n, NONE);
                case 3:
                    return heard.get(n).size();
                case 4:
                    return spoken.contains(n) ? 1 : 0;
                default:
                    return between(10, what, 13) ? said(n, what - 10) : OUTSIDE;
            }
        }

        private int walkOf(int n) {
            if (!is(n)) {
                return UNKNOWN;
            }
            if (way.isEmpty() ? n != dealer : !near.get(way.get(way.size() - 1)).contains(n) || way.contains(n)) {
                return STATE;
            }
            way.add(n);
            return way.size();
        }

        private int claimOf(int k, int what) {
            if (!between(0, k, claims.size() - 1)) {
                return OUTSIDE;
            }
            Claim c = claims.get(k);
            switch (what) {
                case 0:
                    return c.value;
                case 1:
                    return c.way.size();
                case 2:
                    return asBits(new TreeSet<>(c.way));
                default:
                    if (!between(10, what, 21)) {
                        return OUTSIDE;
                    }
                    return what - 10 < c.way.size() ? c.way.get(what - 10) : NONE;
            }
        }

        private int manyOf(int what) {
            List<Integer> all = new ArrayList<>();
            int pairs = 0;
            for (int a = 0; a < size; a++) {
                all.add(a);
                for (int b = 0; b < a; b++) {
                    pairs += near.get(a).contains(b) ? 1 : 0;
                }
            }
            int[] sums = sums(all);
            int[] answers = {size, pairs, lies.size(), round(), over, sums[1], sums[2], cuts.size(),
                claims.size(), way.size(), bands()};
            return between(0, what, 10) ? answers[what] : OUTSIDE;
        }
    }

    // ---- drawing calls

    private static final class Draw {
        private final Random random;
        private final Model model;
        private final int taste;

        Draw(long seed, Model model) {
            this.random = new Random(seed);
            this.model = model;
            this.taste = random.nextInt(4);
        }

        int below(int n) {
            return random.nextInt(n);
        }

        /** Each taste calls one part of the document more than the others. */
        String call() {
            int part = below(10) < 6 ? taste : below(4);
            if (taste == 3 && part == 0 && model.size > 5 && below(8) != 0) {
                // Calls of the first part clear the CLAIMS: else there would never be many.
                part = 3;
            }
            if (part == 3 && endsAtLast() && below(3) != 0) {
                return "tell";
            }
            switch (part) {
                case 0:
                    // net and grid seldom: else no NET would grow.
                    return below(12) == 0 ? NAMES[below(2)] : NAMES[2 + below(5)];
                case 1:
                    return below(8) == 0 ? "begin" : NAMES[8 + below(3)];
                case 2:
                    // worst and bears seldom: the model is slow in these.
                    return below(20) == 0 ? NAMES[14 + below(2)] : NAMES[below(2) == 0 ? 11 + below(3) : 16 + below(2)];
                default:
                    int k = below(14);
                    return k < 6 ? "walk" : k < 9 ? "tell" : k == 9 && below(3) == 0 ? "drop" : NAMES[21 + below(4)];
            }
        }

        /** WAYS that end at one NODE are what PROOF is about. */
        private boolean endsAtLast() {
            return !model.way.isEmpty() && model.way.get(model.way.size() - 1) == model.size - 1;
        }

        int wild() {
            int[] odd = {-1, -2, -3, -9, -10, 4, 5, 6, 7, 9, 12, 13, 14, 22, 101, 4096, 1 << 16, 1 << 30,
                Integer.MIN_VALUE, Integer.MAX_VALUE};
            return odd[below(odd.length)];
        }

        int argument(String name, int i) {
            if (below(25) == 0) {
                return wild();
            }
            switch (name) {
                case "net":
                    return 2 + below(11);
                case "grid":
                    return 1 + below(i == 2 ? 3 : 5);
                case "edge":
                    return i == 2 ? (below(4) == 0 ? 0 : 1) : below(model.size);
                case "dealer":
                    return i == 1 ? below(4) : below(model.size);
                case "need":
                    return below(3) == 0 ? 1 + below(6) : 1 + below(3);
                case "lie":
                    return i == 0 ? below(model.size) : below(3) == 0 ? NONE : below(5);
                case "ticks":
                    return below(6) == 0 ? below(101) : below(4);
                case "node":
                    return i == 0 ? below(model.size) : below(2) == 0 ? below(6) : 9 + below(6);
                case "band":
                    return i == 0 ? below(model.bands() + 1) : below(4);
                case "sort":
                case "crowded":
                case "reached":
                case "name":
                    int set = below((int) Math.pow(2, model.size));
                    set &= below(3) == 0 ? -1 : below((int) Math.pow(2, model.size));
                    return below(10) == 0 ? set : set & ~(1 << model.dealer);
                case "named":
                    return below(8);
                case "walk":
                    return step();
                case "claim":
                    return i == 0 ? below(9) : below(2) == 0 ? below(3) : 9 + below(14);
                case "proof":
                case "believes":
                    return i == 1 ? below(2) * below(4) : below(2) == 0 ? model.size - 1 : below(model.size);
                default:
                    return name.equals("many") ? below(11) : name.equals("tell") ? below(2) * below(4)
                        : name.equals("worst") ? below(4) : below(model.size);
            }
        }

        /** A step that the WAY can take, most times. */
        private int step() {
            if (model.way.isEmpty()) {
                return below(8) == 0 ? below(model.size) : model.dealer;
            }
            List<Integer> next = new ArrayList<>(model.near.get(model.way.get(model.way.size() - 1)));
            next.removeAll(model.way);
            return next.isEmpty() || below(8) == 0 ? below(model.size) : next.get(below(next.size()));
        }
    }

    private static int callOf(NearLiars x, String name, int[] a) {
        switch (name) {
            case "net": return x.net(a[0]);
            case "grid": return x.grid(a[0], a[1], a[2]);
            case "edge": return x.edge(a[0], a[1], a[2]);
            case "neighbours": return x.neighbours(a[0]);
            case "dealer": return x.dealer(a[0], a[1]);
            case "need": return x.need(a[0]);
            case "lie": return x.lie(a[0], a[1]);
            case "begin": return x.begin();
            case "ticks": return x.ticks(a[0]);
            case "node": return x.node(a[0], a[1]);
            case "band": return x.band(a[0], a[1]);
            case "sort": return x.sort(a[0]);
            case "crowded": return x.crowded(a[0]);
            case "reached": return x.reached(a[0]);
            case "worst": return x.worst(a[0]);
            case "bears": return x.bears();
            case "name": return x.name(a[0]);
            case "named": return x.named(a[0]);
            case "walk": return x.walk(a[0]);
            case "tell": return x.tell(a[0]);
            case "drop": return x.drop();
            case "claim": return x.claim(a[0], a[1]);
            case "proof": return x.proof(a[0], a[1]);
            case "believes": return x.believes(a[0]);
            default: return x.many(a[0]);
        }
    }

    private static int argumentsOf(String name) {
        for (int i = 0; i < NAMES.length; i++) {
            if (NAMES[i].equals(name)) {
                return ARGUMENTS[i];
            }
        }
        throw new IllegalStateException(name);
    }

    /** Whether all calls went as due; the first that does not ends the run. */
    private static boolean run(long seed, Map<String, Set<Integer>> seen) {
        NearLiars x = new NearLiars();
        Model model = new Model();
        Draw draw = new Draw(seed, model);
        List<String> told = new ArrayList<>();
        for (int c = 0; c < CALLS; c++) {
            String name = draw.call();
            int[] a = new int[argumentsOf(name)];
            for (int i = 0; i < a.length; i++) {
                a[i] = draw.argument(name, i);
            }
            int want = model.answer(name, a);
            int got = callOf(x, name, a);
            told.add(name + Arrays.toString(a) + " " + got);
            seen.computeIfAbsent(name, k -> new TreeSet<>()).add(want);
            if (got != want) {
                System.out.println("seed " + seed + ", call " + c + ": due is " + want);
                for (String line : told.subList(Math.max(0, told.size() - 40), told.size())) {
                    System.out.println("  " + line);
                }
                return false;
            }
        }
        return true;
    }

    public static void main(String[] args) {
        int wrong = 0;
        Map<String, Set<Integer>> seen = new TreeMap<>();
        for (int seed = 1; seed <= RUNS && wrong < 3; seed++) {
            if (!run(seed, seen)) {
                wrong++;
            }
        }
        if (args.length > 0) {
            seen.forEach((name, answers) -> System.out.println(name + " " + answers.size() + " "
                + new ArrayList<>(answers).subList(0, Math.min(20, answers.size()))));
        }
        System.out.println(wrong == 0 ? "all runs are as the model's" : wrong + " runs are not as the model's");
        if (wrong != 0) {
            System.exit(1);
        }
    }
}

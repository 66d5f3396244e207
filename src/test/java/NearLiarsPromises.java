/** Each promise by hand: ordinary inputs, the edges that the document names, and wrong inputs. */
public final class NearLiarsPromises {
    private static final int UNKNOWN = -1, OUTSIDE = -2, STATE = -3, NONE = -9;
    private static final int MIN = Integer.MIN_VALUE, MAX = Integer.MAX_VALUE;

    private static int wrong = 0;
    private static int promise = 0;

    private static void due(String call, int got, int want) {
        if (got != want) {
            wrong++;
            System.out.println("promise " + promise + ": " + call + " answered " + got + ", due is " + want);
        }
    }

    public static void main(String[] args) {
        aNewObject();
        net();
        grid();
        edge();
        neighbours();
        dealer();
        need();
        lie();
        begin();
        ticks();
        node();
        slots();
        band();
        sort();
        crowded();
        reached();
        worst();
        bears();
        name();
        named();
        walk();
        tell();
        drop();
        claim();
        proof();
        believes();
        many();
        System.out.println(wrong == 0 ? "all promises hold" : wrong + " answers are not as due");
        if (wrong != 0) {
            System.exit(1);
        }
    }

    /** A RUN, a NAMED CUT, a WAY in hand and a CLAIM, to see what a call leaves of them. */
    private static NearLiars busy() {
        NearLiars x = Nets.line(3);
        x.need(2);
        x.name(0);
        Nets.telling(x, 1, 0, 1);
        x.walk(0);
        x.ticks(4);
        return x;
    }

    private static void left(NearLiars x, String call, int ticks, int names, int claims, int steps) {
        due(call + ", many(4)", x.many(4), ticks);
        due(call + ", many(7)", x.many(7), names);
        due(call + ", many(8)", x.many(8), claims);
        due(call + ", many(9)", x.many(9), steps);
    }

    // ---- the promises

    private static void aNewObject() {
        promise = 1;
        NearLiars x = new NearLiars();
        int[] counts = {2, 0, 0, 1, 0, 1, 0, 0, 0, 0, 1};
        for (int i = 0; i < counts.length; i++) {
            due("many(" + i + ")", x.many(i), counts[i]);
        }
        due("neighbours(0)", x.neighbours(0), 0);
        due("neighbours(1)", x.neighbours(1), 0);
        due("neighbours(2)", x.neighbours(2), UNKNOWN);
        due("node(0, 1)", x.node(0, 1), 0);
        due("node(0, 2)", x.node(0, 2), 0);
        due("node(1, 1)", x.node(1, 1), NONE);
        due("lie(1, NONE)", x.lie(1, NONE), NONE);
        due("need(1)", x.need(1), 1);
        due("dealer(1, 0)", x.dealer(1, 0), 0);
        NearLiars y = new NearLiars();
        y.net(7);
        due("another object's many(0)", x.many(0), 2);
    }

    private static void net() {
        promise = 2;
        NearLiars x = new NearLiars();
        due("net(12)", x.net(12), 12);
        due("net(2)", x.net(2), 2);
        due("net(7)", x.net(7), 7);
        int[] bad = {1, 0, -1, 13, MIN, MAX};
        for (int n : bad) {
            due("net(" + n + ")", x.net(n), OUTSIDE);
        }
        due("many(0)", x.many(0), 7);

        x = busy();
        due("net(13)", x.net(13), OUTSIDE);
        left(x, "net(13)", 4, 1, 1, 1);
        due("net(5)", x.net(5), 5);
        left(x, "net(5)", 0, 0, 0, 0);
        due("many(1)", x.many(1), 0);

        x.grid(2, 3, 1);
        x.dealer(3, 2);
        x.need(4);
        x.lie(1, 4);
        due("net(6)", x.net(6), 6);
        due("many(10)", x.many(10), 1);
        due("many(2)", x.many(2), 0);
        due("node(0, 1)", x.node(0, 1), 2);
        due("node(3, 1)", x.node(3, 1), NONE);
        due("need(4)", x.need(4), 4);
        due("lie(0, 1)", x.lie(0, 1), STATE);
        due("lie(1, NONE)", x.lie(1, NONE), NONE);
        due("dealer(0, 0)", x.dealer(0, 0), 0);
        for (int i = 0; i < 6; i++) {
            due("neighbours(" + i + ")", x.neighbours(i), 0);
        }
    }

    private static void grid() {
        promise = 3;
        NearLiars x = new NearLiars();
        due("grid(3, 3, 1)", x.grid(3, 3, 1), 9);
        due("neighbours(0)", x.neighbours(0), 26);
        due("neighbours(1)", x.neighbours(1), 1 + 4 + 8 + 16 + 32);
        due("neighbours(4)", x.neighbours(4), 511 - 16);
        due("many(1)", x.many(1), 20);
        due("grid(4, 3, 2)", x.grid(4, 3, 2), 12);
        due("neighbours(0)", x.neighbours(0), 7 + 112 + 1792 - 1);
        due("neighbours(3)", x.neighbours(3), 14 + 224 + 3584 - 8);
        due("grid(12, 1, 3)", x.grid(12, 1, 3), 12);
        due("neighbours(5)", x.neighbours(5), 4 + 8 + 16 + 64 + 128 + 256);
        due("many(10)", x.many(10), 1);
        due("grid(1, 12, 1)", x.grid(1, 12, 1), 12);
        due("neighbours(11)", x.neighbours(11), 1 << 10);
        due("many(10)", x.many(10), 12);
        due("grid(1, 2, 1)", x.grid(1, 2, 1), 2);
        due("grid(2, 1, 1)", x.grid(2, 1, 1), 2);

        int[][] bad = {{1, 1, 1}, {0, 2, 1}, {2, 0, 1}, {-1, -2, 1}, {-2, -3, 2}, {13, 1, 1}, {1, 13, 1},
            {4, 4, 1}, {5, 3, 1}, {2, 2, 0}, {2, 2, 4}, {2, 2, -1}, {1 << 16, 1 << 16, 1},
            {(1 << 30) + 1, 4, 1}, {4, (1 << 30) + 1, 1}, {MIN, MIN, MIN}, {MAX, MAX, MAX}, {3, 4, MAX}};
        x = busy();
        for (int[] b : bad) {
            due("grid(" + b[0] + ", " + b[1] + ", " + b[2] + ")", x.grid(b[0], b[1], b[2]), OUTSIDE);
        }
        left(x, "grid refused", 4, 1, 1, 1);
        due("many(0)", x.many(0), 3);
        x.dealer(2, 3);
        x.lie(0, 1);
        due("grid(1, 3, 2)", x.grid(1, 3, 2), 3);
        left(x, "grid(1, 3, 2)", 0, 0, 0, 0);
        due("many(2)", x.many(2), 0);
        due("node(0, 1)", x.node(0, 1), 3);
        due("need(2)", x.need(2), 2);
        due("neighbours(0)", x.neighbours(0), 6);
        due("dealer(0, 0)", x.dealer(0, 0), 0);
    }

    private static void edge() {
        promise = 4;
        NearLiars x = new NearLiars();
        x.net(4);
        due("edge(1, 3, 0)", x.edge(1, 3, 0), 0);
        due("edge(1, 3, 1)", x.edge(1, 3, 1), 0);
        due("edge(3, 1, 1)", x.edge(3, 1, 1), 1);
        due("neighbours(1)", x.neighbours(1), 8);
        due("neighbours(3)", x.neighbours(3), 2);
        due("edge(3, 1, 0)", x.edge(3, 1, 0), 1);
        due("neighbours(1)", x.neighbours(1), 0);
        due("neighbours(3)", x.neighbours(3), 0);
        due("edge(0, 4, 1)", x.edge(0, 4, 1), UNKNOWN);
        due("edge(4, 0, 1)", x.edge(4, 0, 1), UNKNOWN);
        due("edge(-1, 0, 5)", x.edge(-1, 0, 5), UNKNOWN);
        due("edge(MIN, MAX, 1)", x.edge(MIN, MAX, 1), UNKNOWN);
        due("edge(9, 9, 9)", x.edge(9, 9, 9), UNKNOWN);
        due("edge(0, 1, 2)", x.edge(0, 1, 2), OUTSIDE);
        due("edge(0, 1, -1)", x.edge(0, 1, -1), OUTSIDE);
        due("edge(2, 2, 2)", x.edge(2, 2, 2), OUTSIDE);
        due("edge(2, 2, 1)", x.edge(2, 2, 1), STATE);
        due("edge(2, 2, 0)", x.edge(2, 2, 0), STATE);
        due("neighbours(2)", x.neighbours(2), 0);

        x = busy();
        due("edge(1, 1, 1)", x.edge(1, 1, 1), STATE);
        left(x, "edge refused", 4, 1, 1, 1);
        due("edge(0, 1, 1)", x.edge(0, 1, 1), 1);
        left(x, "edge(0, 1, 1)", 0, 1, 0, 0);

        x.grid(2, 2, 1);
        x.edge(0, 3, 0);
        due("many(10) behind edge", x.many(10), 2);
    }

    private static void neighbours() {
        promise = 5;
        NearLiars x = Nets.line(12);
        due("neighbours(0)", x.neighbours(0), 2);
        due("neighbours(5)", x.neighbours(5), 16 + 64);
        due("neighbours(11)", x.neighbours(11), 1 << 10);
        int[] bad = {-1, 12, MIN, MAX};
        for (int n : bad) {
            due("neighbours(" + n + ")", x.neighbours(n), UNKNOWN);
        }
    }

    private static void dealer() {
        promise = 6;
        NearLiars x = Nets.line(3);
        x.need(2);
        x.lie(2, 1);
        due("dealer(2, 3)", x.dealer(2, 3), 0);
        due("many(2)", x.many(2), 0);
        due("node(2, 1)", x.node(2, 1), 3);
        due("node(0, 1)", x.node(0, 1), NONE);
        due("lie(2, 0)", x.lie(2, 0), STATE);
        due("lie(0, 4)", x.lie(0, 4), NONE);
        due("dealer(1, 0)", x.dealer(1, 0), 2);
        due("lie(2, 4)", x.lie(2, 4), NONE);
        due("dealer(3, 9)", x.dealer(3, 9), UNKNOWN);
        due("dealer(-1, 0)", x.dealer(-1, 0), UNKNOWN);
        due("dealer(MIN, 0)", x.dealer(MIN, 0), UNKNOWN);
        due("dealer(0, 4)", x.dealer(0, 4), OUTSIDE);
        due("dealer(0, -1)", x.dealer(0, -1), OUTSIDE);
        due("dealer(0, NONE)", x.dealer(0, NONE), OUTSIDE);
        due("lie(0, NONE)", x.lie(0, NONE), 4);
        due("dealer(1, 1)", x.dealer(1, 1), 1);

        x = busy();
        due("dealer(0, 4)", x.dealer(0, 4), OUTSIDE);
        left(x, "dealer refused", 4, 1, 1, 1);
        due("dealer(0, 0)", x.dealer(0, 0), 0);
        left(x, "dealer(0, 0)", 0, 1, 0, 0);
    }

    private static void need() {
        promise = 7;
        NearLiars x = busy();
        int[] bad = {0, 7, -1, NONE, MIN, MAX};
        for (int k : bad) {
            due("need(" + k + ")", x.need(k), OUTSIDE);
        }
        left(x, "need refused", 4, 1, 1, 1);
        due("need(6)", x.need(6), 2);
        left(x, "need(6)", 0, 1, 1, 1);
        due("need(1)", x.need(1), 6);
        x.ticks(3);
        due("need(1)", x.need(1), 1);
        due("many(4)", x.many(4), 0);

        x = Nets.three();
        x.need(3);
        due("ticks(100)", x.ticks(100), 4);
        x.need(4);
        due("ticks(100)", x.ticks(100), 3);
        due("node(4, 1)", x.node(4, 1), NONE);
    }

    private static void lie() {
        promise = 8;
        NearLiars x = Nets.line(3);
        for (int v = 0; v <= 4; v++) {
            due("lie(1, " + v + ")", x.lie(1, v), v == 0 ? NONE : v - 1);
        }
        due("many(2)", x.many(2), 1);
        due("lie(1, NONE)", x.lie(1, NONE), 4);
        due("many(2)", x.many(2), 0);
        due("lie(2, NONE)", x.lie(2, NONE), NONE);
        int[] bad = {5, -1, -2, -3, -8, -10, MIN, MAX};
        for (int v : bad) {
            due("lie(1, " + v + ")", x.lie(1, v), OUTSIDE);
            due("lie(0, " + v + ")", x.lie(0, v), OUTSIDE);
            due("lie(3, " + v + ")", x.lie(3, v), UNKNOWN);
        }
        due("lie(-1, 0)", x.lie(-1, 0), UNKNOWN);
        due("lie(0, 0)", x.lie(0, 0), STATE);
        due("lie(0, NONE)", x.lie(0, NONE), STATE);

        x = busy();
        due("lie(0, 1)", x.lie(0, 1), STATE);
        left(x, "lie refused", 4, 1, 1, 1);
        due("lie(1, NONE)", x.lie(1, NONE), NONE);
        left(x, "lie(1, NONE)", 0, 1, 1, 1);
    }

    private static void begin() {
        promise = 9;
        NearLiars x = busy();
        due("begin()", x.begin(), 4);
        left(x, "begin()", 0, 1, 1, 1);
        due("begin()", x.begin(), 0);
        due("node(0, 4)", x.node(0, 4), 0);
        due("node(1, 1)", x.node(1, 1), NONE);
        due("node(1, 2)", x.node(1, 2), NONE);
        due("node(1, 3)", x.node(1, 3), 0);
        due("node(0, 1)", x.node(0, 1), 0);
        due("node(0, 2)", x.node(0, 2), 0);
        due("ticks(1)", x.ticks(1), 1);
        due("begin()", x.begin(), 1);
        due("ticks(1)", x.ticks(1), 1);
        x.ticks(100);
        x.ticks(100);
        due("begin()", x.begin(), 201);
    }

    private static void ticks() {
        promise = 10;
        NearLiars x = Nets.line(3);
        due("ticks(0)", x.ticks(0), 0);
        due("many(4)", x.many(4), 0);
        int[] bad = {-1, 101, MIN, MAX};
        for (int n : bad) {
            due("ticks(" + n + ")", x.ticks(n), OUTSIDE);
        }
        due("many(4)", x.many(4), 0);
        due("ticks(3)", x.ticks(3), 2);
        due("ticks(100)", x.ticks(100), 0);
        due("many(4)", x.many(4), 103);

        // The DEALER has SLOT 2 of three: its word waits for TICK 3, that of 1 for TICK 5.
        x.dealer(2, 1);
        int[] took = {0, 0, 1, 0, 1, 0, 0};
        for (int t = 0; t < took.length; t++) {
            due("ticks(1) at " + (t + 1), x.ticks(1), took[t]);
        }
        due("node(1, 2)", x.node(1, 2), 3);
        due("node(0, 2)", x.node(0, 2), 5);
        due("node(0, 1)", x.node(0, 1), 1);

        // What the DEALER says is taken at once, whatever others have said before.
        x = Nets.three();
        x.dealer(4, 3);
        x.need(2);
        x.lie(1, 0);
        x.lie(2, 4);
        due("ticks(100)", x.ticks(100), 1);
        due("node(3, 1)", x.node(3, 1), 3);
        due("node(0, 1)", x.node(0, 1), NONE);
        due("node(0, 10)", x.node(0, 10), 1);
        due("node(0, 13)", x.node(0, 13), 1);
        due("node(2, 4)", x.node(2, 4), 0);
        due("node(1, 4)", x.node(1, 4), 1);

        // Two that lie alike are believed, if two are needed; the first value with two is kept.
        x = Nets.three();
        x.need(2);
        x.lie(1, 2);
        x.lie(2, 2);
        due("ticks(100)", x.ticks(100), 2);
        due("node(4, 1)", x.node(4, 1), 2);
        due("node(4, 3)", x.node(4, 3), 3);
        due("node(1, 1)", x.node(1, 1), NONE);
        due("node(1, 3)", x.node(1, 3), 2);

        // A false one may lie with the truth.
        x.lie(1, 0);
        x.lie(2, 0);
        due("ticks(100)", x.ticks(100), 2);
        due("node(4, 1)", x.node(4, 1), 0);

        // The lie of 0 comes first to 1, but the DEALER's word is enough by itself.
        x = Nets.line(3);
        x.need(3);
        x.dealer(2, 1);
        x.lie(0, 3);
        due("ticks(1)", x.ticks(1), 0);
        due("node(1, 13)", x.node(1, 13), 1);
        due("ticks(2)", x.ticks(2), 1);
        due("node(1, 1)", x.node(1, 1), 1);
        due("node(1, 2)", x.node(1, 2), 3);
        // With NEED 1 the lie is taken, as it comes first.
        x.need(1);
        due("ticks(100)", x.ticks(100), 1);
        due("node(1, 1)", x.node(1, 1), 3);
        due("node(1, 2)", x.node(1, 2), 1);
        due("node(2, 1)", x.node(2, 1), 1);
        due("node(2, 13)", x.node(2, 13), 1);
    }

    private static void node() {
        promise = 11;
        NearLiars x = Nets.line(3);
        x.dealer(0, 2);
        int[] before = {1, NONE, NONE, 0, 0};
        for (int i = 0; i < 5; i++) {
            due("node(1, " + i + ")", x.node(1, i), before[i]);
        }
        x.ticks(1);
        int[] first = {1, 2, 1, 1, 0};
        for (int i = 0; i < 5; i++) {
            due("node(1, " + i + ")", x.node(1, i), first[i]);
        }
        due("node(0, 4)", x.node(0, 4), 1);
        x.ticks(2);
        int[] after = {1, 2, 1, 2, 1};
        int[] words = {0, 0, 2, 0};
        for (int i = 0; i < 5; i++) {
            due("node(1, " + i + ")", x.node(1, i), after[i]);
        }
        for (int v = 0; v < 4; v++) {
            due("node(1, 1" + v + ")", x.node(1, 10 + v), words[v]);
        }
        due("node(0, 3)", x.node(0, 3), 1);
        // Each speaks once in a RUN alone.
        x.ticks(100);
        due("node(0, 3)", x.node(0, 3), 1);
        due("node(1, 3)", x.node(1, 3), 2);
        int[] bad = {5, 9, 14, -1, NONE, MIN, MAX};
        for (int what : bad) {
            due("node(1, " + what + ")", x.node(1, what), OUTSIDE);
            due("node(3, " + what + ")", x.node(3, what), UNKNOWN);
        }
        due("node(-1, 0)", x.node(-1, 0), UNKNOWN);
        due("node(MAX, 0)", x.node(MAX, 0), UNKNOWN);
    }

    /** SLOTS and ROUND: those of NEIGHBOURS and of NODES with a NEIGHBOUR in common differ. */
    private static void slots() {
        promise = 11;
        NearLiars x = Nets.line(7);
        int[] ofLine = {0, 1, 2, 0, 1, 2, 0};
        for (int i = 0; i < 7; i++) {
            due("line, node(" + i + ", 0)", x.node(i, 0), ofLine[i]);
        }
        due("many(3)", x.many(3), 3);

        // 0 and 1 are far apart; 2 joins neither; 3 is beside 0 and, by 4, near 1.
        x.net(5);
        x.edge(0, 3, 1);
        x.edge(3, 4, 1);
        x.edge(4, 1, 1);
        int[] ofBow = {0, 0, 0, 1, 2};
        for (int i = 0; i < 5; i++) {
            due("bow, node(" + i + ", 0)", x.node(i, 0), ofBow[i]);
        }
        due("many(3)", x.many(3), 3);
        x.edge(3, 4, 0);
        int[] ofTwos = {0, 0, 0, 1, 1};
        for (int i = 0; i < 5; i++) {
            due("twos, node(" + i + ", 0)", x.node(i, 0), ofTwos[i]);
        }
        due("many(3)", x.many(3), 2);

        x.grid(4, 3, 3);
        for (int i = 0; i < 12; i++) {
            due("all near, node(" + i + ", 0)", x.node(i, 0), i);
        }
        due("many(3)", x.many(3), 12);
        x.net(12);
        due("none near, many(3)", x.many(3), 1);
        due("none near, node(11, 0)", x.node(11, 0), 0);
    }

    private static void band() {
        promise = 12;
        NearLiars x = new NearLiars();
        x.grid(2, 3, 1);
        x.dealer(0, 1);
        x.need(2);
        // SLOTS are 0 1 2 3 4 5: all have a NEIGHBOUR in common.
        due("many(3)", x.many(3), 6);
        x.ticks(1);
        int[][] one = {{2, 2, 0, 1}, {2, 2, 0, 1}, {2, 0, 0, NONE}};
        bands(x, one);
        // 2 and 3, heard by 4 and 5, speak in TICKS 3 and 4.
        due("ticks(5)", x.ticks(5), 2);
        int[][] six = {{2, 2, 0, 1}, {2, 2, 0, 1}, {2, 2, 0, 4}};
        bands(x, six);

        // Both of the middle BAND lie: it has no HONEST ones, and the last BAND believes them.
        x.lie(2, 0);
        x.lie(3, 0);
        due("ticks(6)", x.ticks(6), 3);
        int[][] lied = {{2, 2, 0, 1}, {0, 0, 0, NONE}, {2, 0, 2, 4}};
        bands(x, lied);
        x.lie(5, 4);
        x.ticks(6);
        int[][] less = {{2, 2, 0, 1}, {0, 0, 0, NONE}, {1, 0, 1, 4}};
        bands(x, less);
        int[] bad = {-1, 4, 10, MIN, MAX};
        for (int b : bad) {
            due("band(0, " + b + ")", x.band(0, b), OUTSIDE);
        }
        int[] none = {-1, 3, MIN, MAX};
        for (int y : none) {
            due("band(" + y + ", 0)", x.band(y, 0), OUTSIDE);
        }
        NearLiars one3 = Nets.line(3);
        one3.ticks(100);
        bands(one3, new int[][] {{3, 3, 0, 2}});
        due("band(1, 0)", one3.band(1, 0), OUTSIDE);

        // NODE 0 is misled by 1 ahead of the DEALER's word, which would have to pass 1.
        NearLiars last = Nets.line(3);
        last.dealer(2, 0);
        last.lie(1, 3);
        last.ticks(6);
        bands(last, new int[][] {{2, 1, 1, 2}});
        due("many(6)", last.many(6), 1);
        last.lie(1, NONE);
        last.lie(0, 2);
        due("many(2)", last.many(2), 1);
        due("band(0, 0)", last.band(0, 0), 2);
    }

    private static void bands(NearLiars x, int[][] want) {
        for (int y = 0; y < want.length; y++) {
            for (int what = 0; what < 4; what++) {
                due("band(" + y + ", " + what + ")", x.band(y, what), want[y][what]);
            }
        }
    }

    private static void badSets(NearLiars x, String call) {
        // A NET of five with DEALER 0.
        int[] bad = {1, 3, 31, 32, 34, 64, -1, -2, MIN, MAX, MAX - 1, 1 << 30};
        for (int set : bad) {
            int got = 0;
            switch (call) {
                case "sort":
                    got = x.sort(set);
                    break;
                case "crowded":
                    got = x.crowded(set);
                    break;
                case "reached":
                    got = x.reached(set);
                    break;
                default:
                    got = x.name(set);
            }
            due(call + "(" + set + ")", got, OUTSIDE);
        }
    }

    private static void sort() {
        promise = 13;
        NearLiars x = Nets.three();
        x.need(2);
        due("sort(0)", x.sort(0), 2);
        due("sort(2)", x.sort(2), 2);
        due("sort(6)", x.sort(6), 0);
        due("sort(16)", x.sort(16), 2);
        // 0 has three NEIGHBOURS in it, 4 is in it itself: the DEALER counts, too.
        due("sort(14 + 16)", x.sort(30), 0);
        badSets(x, "sort");
        x.need(3);
        due("sort(0)", x.sort(0), 2);
        due("sort(2)", x.sort(2), 1);
        due("sort(6)", x.sort(6), 1);
        due("sort(14)", x.sort(14), 0);
        due("sort(18)", x.sort(18), 2);
        x.need(4);
        due("sort(0)", x.sort(0), 1);
        due("sort(14)", x.sort(14), 1);
        due("sort(30)", x.sort(30), 2);
        x.dealer(4, 0);
        due("sort(16)", x.sort(16), OUTSIDE);
        due("sort(1)", x.sort(1), 2);
        x.lie(1, 0);
        due("lies do not count, sort(0)", x.sort(0), 1);
    }

    private static void crowded() {
        promise = 14;
        NearLiars x = Nets.three();
        x.need(2);
        due("crowded(0)", x.crowded(0), NONE);
        due("crowded(6)", x.crowded(6), 0);
        due("crowded(2)", x.crowded(2), NONE);
        x.need(1);
        due("crowded(0)", x.crowded(0), NONE);
        due("crowded(2)", x.crowded(2), 0);
        due("crowded(16)", x.crowded(16), 1);
        due("crowded(16 + 2)", x.crowded(18), 0);
        due("crowded(30)", x.crowded(30), 0);
        x.edge(0, 1, 0);
        due("crowded(2)", x.crowded(2), 4);
        badSets(x, "crowded");
    }

    private static void reached() {
        promise = 15;
        NearLiars x = Nets.three();
        due("reached(0)", x.reached(0), 31);
        due("reached(14)", x.reached(14), 1);
        due("reached(6)", x.reached(6), 25);
        x.need(3);
        due("reached(0)", x.reached(0), 31);
        due("reached(2)", x.reached(2), 1 + 4 + 8);
        due("reached(16)", x.reached(16), 15);
        x.need(4);
        due("reached(0)", x.reached(0), 15);
        badSets(x, "reached");
        x = Nets.line(12);
        x.dealer(11, 0);
        due("reached(0)", x.reached(0), 4095);
        due("reached(1)", x.reached(1), 4094);
        due("reached(32)", x.reached(32), 4095 - 63);
        due("reached(2048)", x.reached(2048), OUTSIDE);
        due("reached(4096)", x.reached(4096), OUTSIDE);
    }

    private static void worst() {
        promise = 16;
        NearLiars x = Nets.three();
        // NEED 1: only the empty set is THIN, as all hang together.
        worsts(x, 0, 0, 1, 0);
        // NEED 2: 4 and one of 1 2 3 at most, or none: 8 sets; two of three reach 4.
        x.need(2);
        worsts(x, 0, 0, 8, 0);
        // NEED 3: all but those with 1 2 3: 14; those without 4 and with one or two of them STOP.
        x.need(3);
        worsts(x, 2, 16, 14, 6);
        // NEED 4: all 16; the 8 without 4 STOP, the empty set among them.
        x.need(4);
        worsts(x, 0, 16, 16, 8);
        int[] bad = {-1, 4, 10, MIN, MAX};
        for (int what : bad) {
            due("worst(" + what + ")", x.worst(what), OUTSIDE);
        }
        // The DEALER alone of four: all that is not in the set is cut off.
        x.net(4);
        x.need(1);
        worsts(x, 0, 14, 8, 7);
        // 0 - 1 - 2, 2 - 3, 2 - 4 with NEED 2: nothing passes 1; {3} and {4} take from the CUT.
        x.net(5);
        x.edge(0, 1, 1);
        x.edge(1, 2, 1);
        x.edge(2, 3, 1);
        x.edge(2, 4, 1);
        x.need(2);
        due("worst(0)", x.worst(0), 0);
        due("worst(1)", x.worst(1), 28);
        // Two ways of like length: more NODES cut off go ahead of fewer in the set.
        x = Nets.line(4);
        x.dealer(1, 0);
        x.need(2);
        due("worst(0)", x.worst(0), 0);
        due("worst(1)", x.worst(1), 8);
        // 1 and 2 both lead to 3, and 3 to 4 and 5: to stop 3 one of 1 and 2 is enough.
        x.net(6);
        x.edge(0, 1, 1);
        x.edge(0, 2, 1);
        x.edge(1, 3, 1);
        x.edge(2, 3, 1);
        x.edge(3, 4, 1);
        x.edge(3, 5, 1);
        x.need(2);
        // With all honest 3 is REACHED, 4 and 5 are not; with 1 in the set 3 is cut off, too.
        due("worst(0)", x.worst(0), 2);
        due("worst(1)", x.worst(1), 8 + 16 + 32);
    }

    private static void worsts(NearLiars x, int set, int cut, int thin, int stop) {
        due("worst(0)", x.worst(0), set);
        due("worst(1)", x.worst(1), cut);
        due("worst(2)", x.worst(2), thin);
        due("worst(3)", x.worst(3), stop);
    }

    private static void bears() {
        promise = 17;
        NearLiars x = Nets.three();
        x.need(5);
        due("bears()", x.bears(), 2);
        due("need(5)", x.need(5), 5);
        x.edge(0, 4, 1);
        due("all beside the DEALER, bears()", x.bears(), 6);
        x.net(2);
        due("nobody beside the DEALER, bears()", x.bears(), NONE);
        x = Nets.line(12);
        due("a line, bears()", x.bears(), 1);
        x.edge(10, 11, 0);
        due("a broken line, bears()", x.bears(), NONE);
        // The DEALER, seven beside it, one behind all of them: k - 1 of the seven are thin for NEED
        // k, and 7 - (k - 1) that are left reach the last one if they are k or more: k is 4.
        x.net(9);
        for (int i = 1; i <= 7; i++) {
            x.edge(0, i, 1);
            x.edge(i, 8, 1);
        }
        due("seven ways, bears()", x.bears(), 4);
        x.dealer(1, 0);
        due("one of the seven deals, bears()", x.bears(), 1);
        x.ticks(5);
        x.bears();
        due("many(4)", x.many(4), 5);
    }

    private static void name() {
        promise = 18;
        NearLiars x = Nets.three();
        x.need(3);
        due("name(0)", x.name(0), STATE);
        due("name(30)", x.name(30), STATE);
        due("name(2)", x.name(2), 0);
        due("name(4), the same CUT", x.name(4), 0);
        due("not THIN, name(14)", x.name(14), 0);
        due("many(7)", x.many(7), 1);
        due("named(0)", x.named(0), 16);
        badSets(x, "name");
        due("many(7)", x.many(7), 1);

        x = Nets.line(12);
        for (int i = 1; i <= 6; i++) {
            // With i in the set all NODES behind it are cut off.
            due("name(" + (1 << i) + ")", x.name(1 << i), i - 1);
        }
        due("many(7)", x.many(7), 6);
        due("again, name(2)", x.name(2), 0);
        due("again, name(64)", x.name(64), 5);
        due("a seventh, name(128)", x.name(128), 5);
        due("many(7)", x.many(7), 6);
        for (int k = 0; k < 6; k++) {
            due("named(" + k + ")", x.named(k), 4095 - ((1 << k + 3) - 1));
        }
        due("the oldest is gone, name(2)", x.name(2), 5);
        due("named(0)", x.named(0), 4095 - 15);
        due("named(5)", x.named(5), 4095 - 3);
        x.ticks(3);
        x.name(4);
        due("many(4)", x.many(4), 3);
    }

    private static void named() {
        promise = 19;
        NearLiars x = new NearLiars();
        due("named(0)", x.named(0), OUTSIDE);
        due("name(0)", x.name(0), 0);
        due("named(0)", x.named(0), 2);
        int[] bad = {1, 5, 6, -1, MIN, MAX};
        for (int k : bad) {
            due("named(" + k + ")", x.named(k), OUTSIDE);
        }
        x.edge(0, 1, 1);
        x.need(4);
        x.dealer(1, 2);
        x.lie(0, 2);
        x.begin();
        due("named(0) behind edge, need, dealer, lie, begin", x.named(0), 2);
        x.net(2);
        due("named(0) behind net", x.named(0), OUTSIDE);
        x.name(0);
        x.grid(1, 2, 1);
        due("named(0) behind grid", x.named(0), OUTSIDE);
        due("many(7)", x.many(7), 0);
    }

    private static void walk() {
        promise = 20;
        NearLiars x = Nets.three();
        due("walk(1)", x.walk(1), STATE);
        due("walk(0)", x.walk(0), 1);
        due("walk(0)", x.walk(0), STATE);
        due("walk(4)", x.walk(4), STATE);
        due("walk(1)", x.walk(1), 2);
        due("walk(0)", x.walk(0), STATE);
        due("walk(1)", x.walk(1), STATE);
        due("walk(4)", x.walk(4), 3);
        due("walk(1)", x.walk(1), STATE);
        due("walk(3)", x.walk(3), 4);
        due("walk(2)", x.walk(2), STATE);
        int[] bad = {-1, 5, 12, MIN, MAX};
        for (int n : bad) {
            due("walk(" + n + ")", x.walk(n), UNKNOWN);
        }
        due("many(9)", x.many(9), 4);
        x.dealer(4, 0);
        due("walk(0)", x.walk(0), STATE);
        due("walk(4)", x.walk(4), 1);
        due("begin keeps it, many(9)", x.begin() + x.many(9), 1);
        x = Nets.line(12);
        for (int i = 0; i < 12; i++) {
            due("walk(" + i + ")", x.walk(i), i + 1);
        }
        for (int i = 0; i < 12; i++) {
            due("a full WAY, walk(" + i + ")", x.walk(i), STATE);
        }
    }

    private static void tell() {
        promise = 21;
        NearLiars x = Nets.three();
        due("tell(0)", x.tell(0), STATE);
        due("tell(4)", x.tell(4), OUTSIDE);
        x.walk(0);
        due("tell(0)", x.tell(0), STATE);
        due("many(9)", x.many(9), 1);
        x.walk(1);
        int[] bad = {4, -1, NONE, MIN, MAX};
        for (int v : bad) {
            due("tell(" + v + ")", x.tell(v), OUTSIDE);
        }
        due("many(9)", x.many(9), 2);
        due("tell(3)", x.tell(3), 1);
        due("many(9)", x.many(9), 0);
        due("the same, tell(3)", Nets.telling(x, 3, 0, 1), STATE);
        due("many(9)", x.many(9), 2);
        due("another value, tell(2)", x.tell(2), 2);
        due("further, tell(3)", Nets.telling(x, 3, 0, 1, 4), 3);
        x.edge(1, 2, 1);
        Nets.telling(x, 0, 0, 1, 2, 4);
        due("the same NODES in another row, tell(0)", Nets.telling(x, 0, 0, 2, 1, 4), 2);

        for (int i = 0; i < 6; i++) {
            due("more of them", Nets.telling(x, i % 3 + 1, i < 3 ? new int[] {0, 1} : new int[] {0, 2}), 3 + i);
        }
        due("the oldest is there still, tell(0)", Nets.telling(x, 0, 0, 1, 2, 4), STATE);
        x.drop();
        due("a ninth, tell(1)", Nets.telling(x, 1, 0, 3), 8);
        due("claim(7, 2)", x.claim(7, 2), 9);
        due("claim(0, 11)", x.claim(0, 11), 2);
        due("the oldest is gone, tell(0)", Nets.telling(x, 0, 0, 1, 2, 4), 8);
        due("claim(7, 13)", x.claim(7, 13), 4);
        due("claim(0, 1)", x.claim(0, 1), 2);
        due("many(8)", x.many(8), 8);
    }

    private static void drop() {
        promise = 22;
        NearLiars x = Nets.three();
        due("drop()", x.drop(), 0);
        Nets.along(x, 0, 2, 4);
        due("drop()", x.drop(), 3);
        due("many(9)", x.many(9), 0);
        due("drop()", x.drop(), 0);
        due("walk(2)", x.walk(2), STATE);
        due("walk(0)", x.walk(0), 1);
        due("walk(2)", x.walk(2), 2);
        due("tell(1)", x.tell(1), 1);
        due("claim(0, 2)", x.claim(0, 2), 5);
        due("drop()", x.drop(), 0);
        due("many(8)", x.many(8), 1);
    }

    private static void claim() {
        promise = 23;
        NearLiars x = Nets.line(12);
        due("claim(0, 0)", x.claim(0, 0), OUTSIDE);
        Nets.telling(x, 2, 0, 1, 2);
        Nets.telling(x, 3, 0, 1, 2, 3, 4, 5, 6, 7, 8, 9, 10, 11);
        due("claim(0, 0)", x.claim(0, 0), 2);
        due("claim(0, 1)", x.claim(0, 1), 3);
        due("claim(0, 2)", x.claim(0, 2), 7);
        due("claim(1, 0)", x.claim(1, 0), 3);
        due("claim(1, 1)", x.claim(1, 1), 12);
        due("claim(1, 2)", x.claim(1, 2), 4095);
        for (int i = 0; i < 12; i++) {
            due("claim(0, 10 and " + i + ")", x.claim(0, 10 + i), i < 3 ? i : NONE);
            due("claim(1, 10 and " + i + ")", x.claim(1, 10 + i), i);
        }
        int[] bad = {3, 9, 22, -1, NONE, MIN, MAX};
        for (int what : bad) {
            due("claim(0, " + what + ")", x.claim(0, what), OUTSIDE);
        }
        int[] none = {2, 8, -1, MIN, MAX};
        for (int k : none) {
            due("claim(" + k + ", 0)", x.claim(k, 0), OUTSIDE);
        }
        x.need(2);
        x.lie(3, 1);
        x.begin();
        x.ticks(7);
        x.drop();
        due("kept, claim(1, 2)", x.claim(1, 2), 4095);
        x.dealer(0, 0);
        due("claim(0, 0)", x.claim(0, 0), OUTSIDE);
    }

    private static void proof() {
        promise = 24;
        NearLiars x = new NearLiars();
        x.grid(3, 2, 2);
        // All are NEIGHBOURS of all: any row of NODES from 0 is a WAY.
        due("proof(5, 1)", x.proof(5, 1), 0);
        Nets.telling(x, 1, 0, 1, 2, 5);
        due("proof(5, 1)", x.proof(5, 1), 1);
        Nets.telling(x, 1, 0, 2, 3, 5);
        Nets.telling(x, 1, 0, 3, 4, 5);
        due("1 2, 2 3, 3 4: proof(5, 1)", x.proof(5, 1), 2);
        Nets.telling(x, 1, 0, 1, 5);
        Nets.telling(x, 1, 0, 4, 5);
        due("1 2, 2 3, 3 4, 1, 4: proof(5, 1)", x.proof(5, 1), 3);
        Nets.telling(x, 1, 0, 5);
        due("and the straight one: proof(5, 1)", x.proof(5, 1), 4);
        due("another value, proof(5, 2)", x.proof(5, 2), 0);
        due("not the end, proof(2, 1)", x.proof(2, 1), 0);
        due("the DEALER, proof(0, 1)", x.proof(0, 1), 0);
        Nets.telling(x, 2, 0, 5, 4);
        due("proof(4, 2)", x.proof(4, 2), 1);
        Nets.telling(x, 2, 0, 1, 5, 3, 4);
        due("5 in common, proof(4, 2)", x.proof(4, 2), 1);
        // A ninth and a tenth drive out 1 2 and 2 3.
        Nets.telling(x, 2, 0, 4);
        Nets.telling(x, 2, 0, 2, 4);
        due("proof(4, 2)", x.proof(4, 2), 3);
        due("3 4, 1, 4, straight: proof(5, 1)", x.proof(5, 1), 3);
        due("proof(6, 9)", x.proof(6, 9), UNKNOWN);
        due("proof(-1, 0)", x.proof(-1, 0), UNKNOWN);
        due("proof(MIN, 0)", x.proof(MIN, 0), UNKNOWN);
        int[] bad = {4, -1, NONE, MIN, MAX};
        for (int v : bad) {
            due("proof(5, " + v + ")", x.proof(5, v), OUTSIDE);
        }

        // The same three in two rows share them.
        x.dealer(2, 0);
        Nets.telling(x, 0, 2, 0, 1, 5);
        Nets.telling(x, 0, 2, 1, 0, 5);
        due("proof(5, 0)", x.proof(5, 0), 1);
        x.net(10);
        for (int i = 1; i <= 8; i++) {
            x.edge(0, i, 1);
            x.edge(i, 9, 1);
            Nets.telling(x, 3, 0);
        }
        for (int i = 1; i <= 8; i++) {
            Nets.telling(x, 3, 0, i, 9);
            x.drop();
        }
        due("eight apart, proof(9, 3)", x.proof(9, 3), 8);
    }

    private static void believes() {
        promise = 25;
        NearLiars x = new NearLiars();
        x.grid(3, 2, 2);
        x.need(2);
        due("believes(5)", x.believes(5), NONE);
        Nets.telling(x, 3, 0, 1, 5);
        due("one of two, believes(5)", x.believes(5), NONE);
        Nets.telling(x, 3, 0, 2, 5);
        due("two of two, believes(5)", x.believes(5), 3);
        Nets.telling(x, 0, 0, 3, 5);
        due("one against, believes(5)", x.believes(5), 3);
        Nets.telling(x, 0, 0, 4, 5);
        due("two against, believes(5)", x.believes(5), NONE);
        Nets.telling(x, 1, 0, 4, 5);
        due("a third value with one, believes(5)", x.believes(5), NONE);
        x.need(1);
        due("two against two, one is enough, believes(5)", x.believes(5), NONE);
        x.need(2);
        Nets.telling(x, 0, 0, 5);
        due("three against two, believes(5)", x.believes(5), 0);
        x.need(3);
        due("three of three, believes(5)", x.believes(5), 0);
        x.need(4);
        due("three of four, believes(5)", x.believes(5), NONE);
        x.need(1);
        due("believes(4)", x.believes(4), NONE);
        Nets.telling(x, 2, 0, 4);
        due("one of one, believes(4)", x.believes(4), 2);
        due("the DEALER, believes(0)", x.believes(0), NONE);
        int[] bad = {-1, 6, MIN, MAX};
        for (int n : bad) {
            due("believes(" + n + ")", x.believes(n), UNKNOWN);
        }
    }

    private static void many() {
        promise = 26;
        NearLiars x = new NearLiars();
        x.grid(2, 3, 1);
        x.dealer(0, 1);
        x.need(2);
        x.lie(2, 0);
        x.lie(3, 0);
        x.name(14);
        Nets.telling(x, 1, 0, 1);
        Nets.telling(x, 2, 0, 1);
        Nets.along(x, 0, 3, 5);
        x.ticks(6);
        // 0 and 1 have the VALUE, 4 and 5 the lie; 2 and 3 lie.
        int[] want = {6, 11, 2, 6, 6, 2, 2, 1, 2, 3, 3};
        for (int i = 0; i < want.length; i++) {
            due("many(" + i + ")", x.many(i), want[i]);
        }
        x.begin();
        int[] anew = {6, 11, 2, 6, 0, 1, 0, 1, 2, 3, 3};
        for (int i = 0; i < anew.length; i++) {
            due("many(" + i + ")", x.many(i), anew[i]);
        }
        int[] bad = {-1, 11, 12, NONE, MIN, MAX};
        for (int what : bad) {
            due("many(" + what + ")", x.many(what), OUTSIDE);
        }
    }
}

/** The boundaries that part 1 (the net) and promises 1 to 8 name, sentence by sentence. */
public final class NearLiarsNetEdges {
    private static final int UNKNOWN = -1, OUTSIDE = -2, STATE = -3, NONE = -9;
    private static final int MIN = Integer.MIN_VALUE, MAX = Integer.MAX_VALUE;
    private static final Sentences DOC = new Sentences();

    public static void main(String[] args) {
        calls();
        nodes();
        pairs();
        bands();
        dealerAndValue();
        needs();
        lies();
        theDealerIsHonest();
        thin();
        promise1();
        promise2();
        promise3();
        promise4();
        promise5();
        promise6();
        promise7();
        promise8();
        DOC.end("Part 1", "Promise 1", "Promise 2", "Promise 3", "Promise 4", "Promise 5", "Promise 6",
            "Promise 7", "Promise 8");
    }

    private static void calls() {
        DOC.of("What it is", "An object is used for at most 512 calls after it has been made");
        NearLiars x = new NearLiars();
        for (int i = 1; i <= 511; i++) {
            x.ticks(100);
        }
        DOC.due("the 512th call, begin()", x.begin(), 51100);
    }

    // ---- part 1

    private static void nodes() {
        DOC.of("Part 1", "The NET has NODES 0 .. n - 1 (n 2 .. 12; 2 at first)");
        NearLiars x = new NearLiars();
        DOC.due("at first, neighbours(1)", x.neighbours(1), 0);
        DOC.due("at first, neighbours(2)", x.neighbours(2), UNKNOWN);
        for (int n = 2; n <= 12; n++) {
            x.net(n);
            DOC.due("net(" + n + "), many(0)", x.many(0), n);
            DOC.due("net(" + n + "), the least", x.neighbours(0), 0);
            DOC.due("net(" + n + "), below the least", x.neighbours(-1), UNKNOWN);
            DOC.due("net(" + n + "), the greatest", x.neighbours(n - 1), 0);
            DOC.due("net(" + n + "), above the greatest", x.neighbours(n), UNKNOWN);
        }
    }

    private static void pairs() {
        DOC.of("Part 1", ", any two of which are NEIGHBOURS or not (at first none are).");
        NearLiars x = new NearLiars();
        DOC.due("at first, many(1)", x.many(1), 0);
        x.net(12);
        DOC.due("net(12), many(1)", x.many(1), 0);
        for (int a = 0; a < 12; a++) {
            for (int b = a + 1; b < 12; b++) {
                DOC.due("edge(" + a + ", " + b + ", 1)", x.edge(a, b, 1), 0);
            }
        }
        DOC.due("all, many(1)", x.many(1), 66);
        for (int a = 0; a < 12; a++) {
            DOC.due("all, neighbours(" + a + ")", x.neighbours(a), 4095 - (1 << a));
        }
        for (int a = 0; a < 12; a++) {
            for (int b = a + 1; b < 12; b++) {
                DOC.due("edge(" + b + ", " + a + ", 0)", x.edge(b, a, 0), 1);
            }
        }
        DOC.due("none, many(1)", x.many(1), 0);
    }

    private static void bands() {
        DOC.of("Part 1", "Of a NET made by grid() NODE w y + x is at column x and row y; BAND y are all NODES of row y;");
        int[][] shapes = {{4, 3}, {3, 4}, {6, 2}, {2, 6}, {12, 1}, {1, 12}, {5, 2}, {2, 1}, {1, 2}};
        for (int[] s : shapes) {
            bandsOf(s[0], s[1]);
        }
        NearLiars x = new NearLiars();
        x.grid(2, 3, 1);
        x.edge(0, 5, 1);
        DOC.due("grid(2, 3, 1) with one edge more, many(10)", x.many(10), 3);
        DOC.due("grid(2, 3, 1) with one edge more, band(2, 0)", x.band(2, 0), 2);

        DOC.of("Part 1", "any other NET has one BAND: all its NODES.");
        x = new NearLiars();
        DOC.due("at first, many(10)", x.many(10), 1);
        DOC.due("at first, band(0, 0)", x.band(0, 0), 2);
        DOC.due("at first, band(1, 0)", x.band(1, 0), OUTSIDE);
        x.grid(1, 12, 1);
        x.net(12);
        DOC.due("a grid and net(12), many(10)", x.many(10), 1);
        DOC.due("a grid and net(12), band(0, 0)", x.band(0, 0), 12);
        DOC.due("a grid and net(12), band(1, 0)", x.band(1, 0), OUTSIDE);
    }

    /** One FALSE NODE at a time: its BAND alone has an HONEST one less. */
    private static void bandsOf(int w, int h) {
        NearLiars x = new NearLiars();
        x.grid(w, h, 1);
        String made = "grid(" + w + ", " + h + ", 1), ";
        DOC.due(made + "many(10)", x.many(10), h);
        for (int n = 1; n < w * h; n++) {
            x.lie(n, 4);
            for (int y = 0; y < h; y++) {
                DOC.due(made + n + " lies, band(" + y + ", 0)", x.band(y, 0), n / w == y ? w - 1 : w);
            }
            x.lie(n, NONE);
        }
        DOC.due(made + "band(" + h + ", 0)", x.band(h, 0), OUTSIDE);
    }

    private static void dealerAndValue() {
        DOC.of("Part 1", "One NODE is the DEALER (0 at first), with a VALUE (0 .. 3; 0 at first).");
        NearLiars x = new NearLiars();
        DOC.due("at first, node(0, 1)", x.node(0, 1), 0);
        DOC.due("at first, node(1, 1)", x.node(1, 1), NONE);
        DOC.due("at first, lie(0, 0)", x.lie(0, 0), STATE);
        for (int v = 0; v <= 3; v++) {
            DOC.due("dealer(0, " + v + ")", x.dealer(0, v), 0);
            DOC.due("dealer(0, " + v + "), node(0, 1)", x.node(0, 1), v);
        }
        DOC.due("dealer(0, 4)", x.dealer(0, 4), OUTSIDE);
        DOC.due("dealer(0, -1)", x.dealer(0, -1), OUTSIDE);
        x.dealer(1, 2);
        DOC.due("another deals, node(0, 1)", x.node(0, 1), NONE);
        DOC.due("another deals, node(1, 1)", x.node(1, 1), 2);
    }

    private static void needs() {
        DOC.of("Part 1", "NEED is 1 .. 6 (1 at first).");
        NearLiars x = new NearLiars();
        int was = 1;
        for (int k = 6; k >= 1; k--) {
            DOC.due("need(" + k + ")", x.need(k), was);
            was = k;
        }
        DOC.due("need(0)", x.need(0), OUTSIDE);
        DOC.due("need(7)", x.need(7), OUTSIDE);
        DOC.due("need(1)", x.need(1), 1);
    }

    private static void lies() {
        DOC.of("Part 1", "Each other NODE is HONEST (at first) or FALSE, with a LIE: a value 0 .. 3, or 4: it says nothing.");
        NearLiars x = new NearLiars();
        DOC.due("at first, many(2)", x.many(2), 0);
        DOC.due("at first, band(0, 0)", x.band(0, 0), 2);
        x = Nets.line(2);
        for (int v = 0; v <= 3; v++) {
            x.lie(1, v);
            DOC.due("lie(1, " + v + "), many(2)", x.many(2), 1);
            x.ticks(100);
            for (int w = 0; w <= 3; w++) {
                DOC.due("lie(1, " + v + "), node(0, 1" + w + ")", x.node(0, 10 + w), v == w ? 1 : 0);
            }
        }
        x.lie(1, 4);
        DOC.due("lie(1, 4), many(2)", x.many(2), 1);
        x.ticks(100);
        DOC.due("lie(1, 4), node(0, 3)", x.node(0, 3), 0);
        DOC.due("lie(1, 4), node(1, 4)", x.node(1, 4), 0);
        NearLiars all = new NearLiars();
        all.net(12);
        for (int n = 1; n < 12; n++) {
            DOC.due("lie(" + n + ", 4)", all.lie(n, 4), NONE);
        }
        DOC.due("all others lie, many(2)", all.many(2), 11);
    }

    private static void theDealerIsHonest() {
        DOC.of("Part 1", "The DEALER is HONEST.");
        NearLiars x = Nets.line(3);
        for (int v = 0; v <= 4; v++) {
            DOC.due("lie(0, " + v + ")", x.lie(0, v), STATE);
        }
        DOC.due("many(2)", x.many(2), 0);
        x.lie(2, 1);
        x.dealer(2, 0);
        DOC.due("a FALSE one deals, many(2)", x.many(2), 0);
        DOC.due("a FALSE one deals, many(5)", x.many(5), 1);
        x.dealer(0, 0);
        DOC.due("it deals no more, lie(2, NONE)", x.lie(2, NONE), NONE);
    }

    private static void thin() {
        DOC.of("Part 1", "A set of NODES without the DEALER is THIN, if each NODE not in it (the DEALER, too) has fewer than NEED NEIGHBOURS in it.");
        // Seven beside the DEALER, and six beside 7 with a DEALER that nobody is beside.
        NearLiars dealing = Nets.star(8, 0, 1, 7);
        NearLiars apart = Nets.star(8, 7, 1, 6);
        for (int need = 1; need <= 6; need++) {
            dealing.need(need);
            apart.need(need);
            for (int m = 0; m <= 7; m++) {
                int set = (1 << m + 1) - 2;
                String told = "NEED " + need + ", " + m + " beside one, thin " ;
                DOC.due(told + "(the DEALER)", dealing.sort(set) != 0 ? 1 : 0, m < need ? 1 : 0);
                if (m < 7) {
                    DOC.due(told + "(another)", apart.sort(set) != 0 ? 1 : 0, m < need ? 1 : 0);
                }
            }
            // 7 itself is in the set: then nobody is left who could have many in it.
            DOC.due("NEED " + need + ", all but the DEALER", apart.sort(254), 2);
        }
        DOC.due("the DEALER in it", apart.sort(1), OUTSIDE);
    }

    // ---- the promises

    private static void promise1() {
        DOC.of("Promise 1", "Two NODES that are no NEIGHBOURS.");
        NearLiars x = new NearLiars();
        DOC.due("many(0)", x.many(0), 2);
        DOC.due("many(1)", x.many(1), 0);
        DOC.due("neighbours(0)", x.neighbours(0), 0);
        DOC.due("neighbours(1)", x.neighbours(1), 0);
        DOC.due("neighbours(2)", x.neighbours(2), UNKNOWN);
        DOC.due("edge(0, 1, 0)", x.edge(0, 1, 0), 0);
    }

    /** All of it is another thing than in a new object. */
    private static NearLiars busy() {
        NearLiars x = new NearLiars();
        x.grid(3, 4, 1);
        x.dealer(11, 3);
        x.need(5);
        x.lie(0, 1);
        x.lie(10, 4);
        x.name(0);
        Nets.telling(x, 1, 11, 10);
        x.walk(11);
        x.ticks(50);
        return x;
    }

    /** What both net() and grid() leave behind, of n NODES. */
    private static void laidAnew(NearLiars x, int n) {
        DOC.due("FALSE ones, many(2)", x.many(2), 0);
        DOC.due("TICKS, many(4)", x.many(4), 0);
        DOC.due("NAMED, many(7)", x.many(7), 0);
        DOC.due("NAMED, named(0)", x.named(0), OUTSIDE);
        DOC.due("CLAIMS, many(8)", x.many(8), 0);
        DOC.due("the WAY, many(9)", x.many(9), 0);
        DOC.due("VALUE stays, node(0, 1)", x.node(0, 1), 3);
        DOC.due("NEED stays, need(5)", x.need(5), 5);
        for (int i = 1; i < n; i++) {
            DOC.due("lie(" + i + ", NONE)", x.lie(i, NONE), NONE);
        }
        DOC.due("DEALER 0, dealer(1, 3)", x.dealer(1, 3), 0);
    }

    private static void promise2() {
        DOC.of("Promise 2", "A NET of n NODES, none NEIGHBOURS, all HONEST, DEALER 0 (VALUE, NEED stay); no CUTS are NAMED: n.");
        for (int n = 2; n <= 12; n++) {
            NearLiars x = busy();
            DOC.due("net(" + n + ")", x.net(n), n);
            for (int i = 0; i < n; i++) {
                DOC.due("net(" + n + "), neighbours(" + i + ")", x.neighbours(i), 0);
            }
            laidAnew(x, n);
        }
        DOC.of("Promise 2", "OUTSIDE: n (2 .. 12).");
        NearLiars x = new NearLiars();
        int[] bad = {1, 0, -1, -12, 13, 14, 1 << 16, MIN, MAX};
        for (int n : bad) {
            DOC.due("net(" + n + ")", x.net(n), OUTSIDE);
            DOC.due("net(" + n + "), many(0)", x.many(0), 2);
        }
    }

    private static void promise3() {
        DOC.of("Promise 3", "A NET of w columns and h rows (w h 2 .. 12; each 1 at least),");
        for (int w = -13; w <= 14; w++) {
            NearLiars x = new NearLiars();
            for (int h = -13; h <= 14; h++) {
                boolean fits = w >= 1 && h >= 1 && w * h >= 2 && w * h <= 12;
                DOC.due("grid(" + w + ", " + h + ", 1)", x.grid(w, h, 1), fits ? w * h : OUTSIDE);
            }
        }
        // Products that would be 2 .. 12 if they wrapped around.
        NearLiars x = new NearLiars();
        int[][] wraps = {{1431655766, 3}, {3, 1431655766}, {(1 << 30) + 1, 4}, {4, (1 << 30) + 1},
            {MIN + 4, 2}, {2, MIN + 4}, {MIN, MIN}, {MAX, MAX}, {1 << 16, 1 << 16}, {-1, -2}, {-3, -4}};
        for (int[] b : wraps) {
            DOC.due("grid(" + b[0] + ", " + b[1] + ", 1)", x.grid(b[0], b[1], 1), OUTSIDE);
        }

        DOC.of("Promise 3", "in which NODES are NEIGHBOURS if neither their columns nor their rows are more than r (1 .. 3) apart;");
        for (int w = 1; w <= 12; w++) {
            for (int h = w == 1 ? 2 : 1; w * h <= 12; h++) {
                for (int r = 1; r <= 3; r++) {
                    nearInGrid(w, h, r);
                }
            }
        }

        DOC.of("Promise 3", "all HONEST, DEALER 0 (VALUE, NEED stay); no CUTS are NAMED: how many NODES.");
        x = busy();
        DOC.due("grid(2, 1, 1)", x.grid(2, 1, 1), 2);
        laidAnew(x, 2);
        x = busy();
        DOC.due("the same again, grid(3, 4, 1)", x.grid(3, 4, 1), 12);
        laidAnew(x, 12);

        DOC.of("Promise 3", "OUTSIDE.");
        x = new NearLiars();
        int[][] bad = {{1, 1, 1}, {13, 1, 1}, {1, 13, 1}, {7, 2, 1}, {0, 5, 1}, {5, 0, 1}, {2, 2, 0}, {2, 2, 4},
            {2, 2, -1}, {2, 2, MIN}, {2, 2, MAX}};
        for (int[] b : bad) {
            DOC.due("grid(" + b[0] + ", " + b[1] + ", " + b[2] + ")", x.grid(b[0], b[1], b[2]), OUTSIDE);
            DOC.due("refused, many(1)", x.many(1), 0);
        }
        DOC.due("refused, many(10)", x.many(10), 1);
    }

    private static void nearInGrid(int w, int h, int r) {
        NearLiars x = new NearLiars();
        x.grid(w, h, r);
        for (int a = 0; a < w * h; a++) {
            int near = 0;
            for (int b = 0; b < w * h; b++) {
                boolean columns = Math.abs(a % w - b % w) <= r;
                boolean rows = Math.abs(a / w - b / w) <= r;
                near += a != b && columns && rows ? 1 << b : 0;
            }
            DOC.due("grid(" + w + ", " + h + ", " + r + "), neighbours(" + a + ")", x.neighbours(a), near);
        }
    }

    private static void promise4() {
        DOC.of("Promise 4", "Two NODES become NEIGHBOURS (v 1), or are none any more (0): what they were (1, 0).");
        NearLiars x = new NearLiars();
        x.net(12);
        DOC.due("none, edge(0, 11, 0)", x.edge(0, 11, 0), 0);
        DOC.due("none, edge(0, 11, 1)", x.edge(0, 11, 1), 0);
        DOC.due("neighbours(0)", x.neighbours(0), 2048);
        DOC.due("neighbours(11)", x.neighbours(11), 1);
        DOC.due("already, edge(11, 0, 1)", x.edge(11, 0, 1), 1);
        DOC.due("neighbours(0)", x.neighbours(0), 2048);
        DOC.due("edge(11, 0, 0)", x.edge(11, 0, 0), 1);
        DOC.due("neighbours(0)", x.neighbours(0), 0);
        DOC.due("neighbours(11)", x.neighbours(11), 0);
        DOC.due("edge(0, 11, 0)", x.edge(0, 11, 0), 0);

        DOC.of("Promise 4", "UNKNOWN;");
        x.net(5);
        int[] unknown = {-1, 5, 12, 31, 32, -32, MIN, MAX};
        for (int n : unknown) {
            DOC.due("edge(" + n + ", 1, 1)", x.edge(n, 1, 1), UNKNOWN);
            DOC.due("edge(1, " + n + ", 1)", x.edge(1, n, 1), UNKNOWN);
            DOC.due("edge(" + n + ", " + n + ", 1)", x.edge(n, n, 1), UNKNOWN);
        }
        DOC.due("refused, many(1)", x.many(1), 0);

        DOC.of("Promise 4", "OUTSIDE: v;");
        int[] bad = {-1, 2, 3, NONE, MIN, MAX};
        for (int v : bad) {
            DOC.due("edge(0, 1, " + v + ")", x.edge(0, 1, v), OUTSIDE);
        }
        DOC.due("refused, many(1)", x.many(1), 0);

        DOC.of("Promise 4", "STATE: the two are one.");
        for (int n = 0; n < 5; n++) {
            DOC.due("edge(" + n + ", " + n + ", 1)", x.edge(n, n, 1), STATE);
            DOC.due("edge(" + n + ", " + n + ", 0)", x.edge(n, n, 0), STATE);
            DOC.due("refused, neighbours(" + n + ")", x.neighbours(n), 0);
        }
    }

    private static void promise5() {
        DOC.of("Promise 5", "The set of a NODE's NEIGHBOURS.");
        NearLiars x = Nets.star(12, 11, 0, 10);
        DOC.due("eleven, neighbours(11)", x.neighbours(11), 2047);
        DOC.due("one, neighbours(0)", x.neighbours(0), 2048);
        x.net(12);
        DOC.due("none, neighbours(11)", x.neighbours(11), 0);
        x.ticks(9);
        x.neighbours(3);
        DOC.due("no RUN begins by it, many(4)", x.many(4), 9);

        DOC.of("Promise 5", "UNKNOWN.");
        int[] unknown = {-1, 12, 32, MIN, MAX};
        for (int n : unknown) {
            DOC.due("neighbours(" + n + ")", x.neighbours(n), UNKNOWN);
        }
        x.net(2);
        DOC.due("a lesser NET, neighbours(11)", x.neighbours(11), UNKNOWN);
    }

    private static void promise6() {
        DOC.of("Promise 6", "A NODE is the DEALER (HONEST then, if it was FALSE), with a VALUE: which NODE it was.");
        NearLiars x = new NearLiars();
        x.net(12);
        DOC.due("dealer(11, 3)", x.dealer(11, 3), 0);
        DOC.due("the same, dealer(11, 3)", x.dealer(11, 3), 11);
        DOC.due("node(11, 1)", x.node(11, 1), 3);
        DOC.due("node(0, 1)", x.node(0, 1), NONE);
        for (int v = 0; v <= 4; v++) {
            x.lie(5, v);
            x.dealer(5, 0);
            DOC.due("its LIE was " + v + ", many(2)", x.many(2), 0);
            DOC.due("its LIE was " + v + ", band(0, 0)", x.band(0, 0), 12);
            x.dealer(4, 0);
            DOC.due("its LIE was " + v + ", lie(5, NONE)", x.lie(5, NONE), NONE);
        }
        x.lie(7, 2);
        x.dealer(8, 1);
        DOC.due("another one is FALSE still, many(2)", x.many(2), 1);

        DOC.of("Promise 6", "UNKNOWN;");
        int[] unknown = {-1, 12, 13, 40, MIN, MAX};
        for (int n : unknown) {
            DOC.due("dealer(" + n + ", 0)", x.dealer(n, 0), UNKNOWN);
        }
        DOC.of("Promise 6", "OUTSIDE.");
        int[] bad = {-1, 4, 5, NONE, MIN, MAX};
        for (int v : bad) {
            DOC.due("dealer(3, " + v + ")", x.dealer(3, v), OUTSIDE);
        }
        DOC.due("refused, dealer(0, 0)", x.dealer(0, 0), 8);
    }

    private static void promise7() {
        DOC.of("Promise 7", "NEED becomes k: what it was.");
        NearLiars x = new NearLiars();
        int was = 1;
        for (int k = 1; k <= 6; k++) {
            DOC.due("need(" + k + ")", x.need(k), was);
            DOC.due("the same, need(" + k + ")", x.need(k), k);
            was = k;
        }
        DOC.of("Promise 7", "OUTSIDE.");
        int[] bad = {0, 7, -1, 8, NONE, MIN, MAX};
        for (int k : bad) {
            DOC.due("need(" + k + ")", x.need(k), OUTSIDE);
        }
        DOC.due("refused, need(1)", x.need(1), 6);
    }

    private static void promise8() {
        DOC.of("Promise 8", "A NODE is FALSE with a LIE (0 .. 4), or HONEST (NONE): what it was, told alike.");
        NearLiars x = new NearLiars();
        x.net(12);
        int[] told = {NONE, 0, 1, 2, 3, 4, 4, NONE, NONE};
        for (int i = 1; i < told.length; i++) {
            DOC.due("lie(11, " + told[i] + ")", x.lie(11, told[i]), told[i - 1]);
            DOC.due("many(2)", x.many(2), told[i] == NONE ? 0 : 1);
        }
        DOC.of("Promise 8", "UNKNOWN;");
        int[] unknown = {-1, 12, 13, MIN, MAX};
        for (int n : unknown) {
            DOC.due("lie(" + n + ", 0)", x.lie(n, 0), UNKNOWN);
            DOC.due("lie(" + n + ", NONE)", x.lie(n, NONE), UNKNOWN);
        }
        DOC.of("Promise 8", "OUTSIDE;");
        int[] bad = {-1, 5, -2, -3, -8, -10, 9, MIN, MAX};
        for (int v : bad) {
            DOC.due("lie(1, " + v + ")", x.lie(1, v), OUTSIDE);
        }
        DOC.due("refused, many(2)", x.many(2), 0);
        DOC.of("Promise 8", "STATE: it is the DEALER.");
        x.dealer(4, 0);
        for (int v = 0; v <= 4; v++) {
            DOC.due("lie(4, " + v + ")", x.lie(4, v), STATE);
            DOC.due("not the DEALER any more, lie(0, " + v + ")", x.lie(0, v), v == 0 ? NONE : v - 1);
        }
        DOC.due("lie(4, NONE)", x.lie(4, NONE), STATE);
        DOC.due("many(2)", x.many(2), 1);
    }
}

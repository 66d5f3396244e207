/** The boundaries that part 3 (sets) and promises 13 to 19 name, sentence by sentence. */
public final class NearLiarsSetEdges {
    private static final int OUTSIDE = -2, STATE = -3, NONE = -9;
    private static final int MIN = Integer.MIN_VALUE, MAX = Integer.MAX_VALUE;
    private static final Sentences DOC = new Sentences();

    public static void main(String[] args) {
        besideTheDealer();
        againAndAgain();
        stops();
        cuts();
        worstByItsCut();
        worstByItsNodes();
        worstByItsNumber();
        theEmptySet();
        namedCuts();
        namesStay();
        promise13();
        promise14();
        promise15();
        promise16();
        promise17();
        promise18();
        promise19();
        DOC.end("Part 3", "Promise 13", "Promise 14", "Promise 15", "Promise 16", "Promise 17", "Promise 18",
            "Promise 19");
    }

    /** The DEALER 0, m beside it, and one more beside these m. */
    private static NearLiars doubled(int m) {
        NearLiars x = new NearLiars();
        x.net(m + 2);
        for (int i = 1; i <= m; i++) {
            x.edge(0, i, 1);
            x.edge(i, m + 1, 1);
        }
        return x;
    }

    /** Each is beside the two of the next lesser numbers: with NEED 2 they come one by one. */
    private static NearLiars ladder(int dealer) {
        NearLiars x = new NearLiars();
        x.net(12);
        for (int i = 1; i < 12; i++) {
            x.edge(i - 1, i, 1);
            if (i > 1) {
                x.edge(i - 2, i, 1);
            }
        }
        x.dealer(dealer, 0);
        x.need(2);
        return x;
    }

    /** The NODES 1 .. m. */
    private static int first(int m) {
        return (1 << m + 1) - 2;
    }

    // ---- part 3

    private static void besideTheDealer() {
        DOC.of("Part 3", "REACHED, with a set of NODES (without the DEALER) that say nothing: the DEALER and its NEIGHBOURS that are not in the set;");
        NearLiars x = new NearLiars();
        DOC.due("nobody beside it, reached(0)", x.reached(0), 1);
        DOC.due("all others in the set, reached(2)", x.reached(2), 1);
        DOC.due("the DEALER in the set, reached(1)", x.reached(1), OUTSIDE);
        x = Nets.star(12, 0, 1, 11);
        for (int need = 1; need <= 6; need += 5) {
            x.need(need);
            DOC.due("NEED " + need + ", reached(0)", x.reached(0), 4095);
            DOC.due("NEED " + need + ", reached(2)", x.reached(2), 4093);
            DOC.due("NEED " + need + ", reached(4094)", x.reached(4094), 1);
        }
    }

    private static void againAndAgain() {
        DOC.of("Part 3", "then again and again NODES that are not in the set and have NEED NEIGHBOURS that are REACHED.");
        DOC.due("up, reached(0)", ladder(0).reached(0), 4095);
        DOC.due("down, reached(0)", ladder(11).reached(0), 4095);
        DOC.due("from the middle, reached(0)", ladder(5).reached(0), 4095);
        DOC.due("the set passes nothing on, reached(2)", ladder(0).reached(2), 1 + 4);
        DOC.due("the set passes nothing on, reached(32)", ladder(0).reached(32), 31);
        NearLiars x = Nets.line(12);
        x.dealer(11, 0);
        DOC.due("a line down, reached(0)", x.reached(0), 4095);
        DOC.due("a line down, reached(2)", x.reached(2), 4092);
        x = doubled(7);
        for (int need = 1; need <= 6; need++) {
            x.need(need);
            for (int m = 0; m <= 7; m++) {
                int left = 511 & ~first(m) & ~256;
                int want = 7 - m >= need ? left | 256 : left;
                DOC.due("NEED " + need + ", reached(" + first(m) + ")", x.reached(first(m)), want);
            }
        }
    }

    private static void stops() {
        DOC.of("Part 3", "A set STOPS the value, if it is THIN and some NODE is neither in it nor REACHED;");
        NearLiars x = doubled(3);
        x.need(2);
        DOC.due("THIN, all REACHED, sort(2)", x.sort(2), 2);
        DOC.due("not THIN, one is not REACHED, sort(6)", x.sort(6), 0);
        x.need(3);
        DOC.due("THIN, one is not REACHED, sort(2)", x.sort(2), 1);
        DOC.due("that one is in it, sort(18)", x.sort(18), 2);
        DOC.due("all REACHED, sort(0)", x.sort(0), 2);
        x.need(4);
        DOC.due("THIN, empty, one is not REACHED, sort(0)", x.sort(0), 1);
        // Whom FALSE ones are now is nothing to it.
        x.need(2);
        x.lie(1, 4);
        x.lie(2, 4);
        DOC.due("two lie, sort(0)", x.sort(0), 2);
    }

    private static void cuts() {
        DOC.of("Part 3", "those NODES are the CUT of it (for any set: NODES neither in it nor REACHED).");
        NearLiars x = Nets.line(12);
        for (int n = 1; n <= 5; n++) {
            int place = x.name(1 << n);
            DOC.due("all behind " + n + ", named(" + place + ")", x.named(place), 4095 & ~((1 << n + 1) - 1));
        }
        x = Nets.line(5);
        DOC.due("in it or REACHED, name(" + 16 + ")", x.name(16), STATE);
        DOC.due("name(2 + 8)", x.name(10), 0);
        DOC.due("those in it are not in the CUT, named(0)", x.named(0), 4 + 16);
    }

    private static void worstByItsCut() {
        DOC.of("Part 3", "The WORST of all THIN sets: the one with the most NODES in its CUT;");
        // 1 and 2 lead to 3, 3 to 4 and 5: the empty set cuts off 4 and 5, {1} and {2} 3, too.
        NearLiars x = new NearLiars();
        x.net(6);
        int[][] edges = {{0, 1}, {0, 2}, {1, 3}, {2, 3}, {3, 4}, {3, 5}};
        for (int[] e : edges) {
            x.edge(e[0], e[1], 1);
        }
        x.need(2);
        DOC.due("worst(0)", x.worst(0), 2);
        DOC.due("worst(1)", x.worst(1), 8 + 16 + 32);
        // {1, 2} would cut off as many and more, but 3 and the DEALER have two in it.
        DOC.due("sort(6)", x.sort(6), 0);
        // The most NODES, not the greatest number: {1} cuts off 2 and 3, {8} cuts off 9.
        x.net(10);
        int[][] arms = {{0, 1}, {0, 4}, {0, 5}, {0, 6}, {0, 7}, {0, 8}, {1, 2}, {4, 2}, {1, 3}, {4, 3}, {8, 9}, {7, 9}};
        for (int[] e : arms) {
            x.edge(e[0], e[1], 1);
        }
        DOC.due("worst(0)", x.worst(0), 2);
        DOC.due("worst(1)", x.worst(1), 4 + 8);
    }

    private static void worstByItsNodes() {
        DOC.of("Part 3", "of several the one with the fewest NODES;");
        // With NEED 3 two of 1 .. 4 cut off 8, and one of 5 6 7 cuts off 9; three are too many for
        // the DEALER. {1, 2} is 6, less than {5}, which is 32.
        NearLiars x = new NearLiars();
        x.net(10);
        for (int i = 1; i <= 7; i++) {
            x.edge(0, i, 1);
            x.edge(i, i <= 4 ? 8 : 9, 1);
        }
        x.need(3);
        DOC.due("sort(6)", x.sort(6), 1);
        DOC.due("sort(32)", x.sort(32), 1);
        DOC.due("worst(0)", x.worst(0), 32);
        DOC.due("worst(1)", x.worst(1), 512);
        // Nobody beside the DEALER: the empty set cuts off all, and none has fewer NODES.
        x.net(12);
        DOC.due("worst(0)", x.worst(0), 0);
        DOC.due("worst(1)", x.worst(1), 4094);
    }

    private static void worstByItsNumber() {
        DOC.of("Part 3", "of these the least as a number.");
        NearLiars x = doubled(3);
        x.need(3);
        DOC.due("one of 1 2 3, worst(0)", x.worst(0), 2);
        x.edge(1, 4, 0);
        x.need(2);
        DOC.due("one of 2 3, worst(0)", x.worst(0), 4);
        DOC.due("worst(1)", x.worst(1), 16);
        // The same NET, told from its other end.
        x = doubled(3);
        x.dealer(4, 0);
        x.need(3);
        DOC.due("another deals, worst(0)", x.worst(0), 2);
        DOC.due("another deals, worst(1)", x.worst(1), 1);
    }

    private static void theEmptySet() {
        DOC.of("Part 3", "(The empty set is THIN.)");
        NearLiars x = Nets.allNear();
        for (int need = 1; need <= 6; need++) {
            x.need(need);
            DOC.due("NEED " + need + ", all near, sort(0)", x.sort(0), 2);
            DOC.due("NEED " + need + ", all near, crowded(0)", x.crowded(0), NONE);
        }
        x.need(1);
        DOC.due("none else, worst(2)", x.worst(2), 1);
        DOC.due("none else, worst(0)", x.worst(0), 0);
        x.net(12);
        DOC.due("it STOPS the value, sort(0)", x.sort(0), 1);
    }

    private static void namedAre(NearLiars x, String told, int... want) {
        DOC.due(told + ", many(7)", x.many(7), want.length);
        for (int k = 0; k < want.length; k++) {
            DOC.due(told + ", named(" + k + ")", x.named(k), want[k]);
        }
        DOC.due(told + ", named(" + want.length + ")", x.named(want.length), OUTSIDE);
    }

    private static void namedCuts() {
        DOC.of("Part 3", "NAMED CUTS: 6 at most, in the order in which they were named; a seventh one takes the place of the oldest.");
        // {i} cuts off what is behind it: 4096 less 2 to the power of i and 1.
        NearLiars x = Nets.line(12);
        int[] sets = {64, 2, 32, 4, 16, 8};
        for (int i = 0; i < sets.length; i++) {
            DOC.due("name(" + sets[i] + ")", x.name(sets[i]), i);
        }
        namedAre(x, "six", 4096 - 128, 4096 - 4, 4096 - 64, 4096 - 8, 4096 - 32, 4096 - 16);
        DOC.due("the seventh, name(256)", x.name(256), 5);
        namedAre(x, "seven", 4096 - 4, 4096 - 64, 4096 - 8, 4096 - 32, 4096 - 16, 4096 - 512);
        DOC.due("the oldest is gone, name(64)", x.name(64), 5);
        namedAre(x, "eight", 4096 - 64, 4096 - 8, 4096 - 32, 4096 - 16, 4096 - 512, 4096 - 128);
        for (int i = 0; i < 6; i++) {
            DOC.due("all anew", x.name(new int[] {2, 512, 1024, 2 + 8, 2 + 16, 2 + 32}[i]), 5);
        }
        namedAre(x, "fourteen", 4096 - 4, 4096 - 1024, 2048, 4096 - 4 - 8, 4096 - 4 - 16, 4096 - 4 - 32);
    }

    private static void namesStay() {
        DOC.of("Part 3", "They stay till net() or grid() (a CUT of a set that is not THIN can be NAMED, too).");
        NearLiars x = Nets.line(3);
        DOC.due("not THIN, sort(2)", x.sort(2), 0);
        DOC.due("not THIN, name(2)", x.name(2), 0);
        x.edge(0, 2, 1);
        x.dealer(2, 3);
        x.need(6);
        x.lie(1, 0);
        x.begin();
        x.ticks(100);
        Nets.telling(x, 1, 2, 0);
        x.drop();
        x.net(13);
        x.grid(1, 1, 1);
        namedAre(x, "whatever else is called", 4);
        x.net(3);
        namedAre(x, "net(3)");
        x.name(0);
        namedAre(x, "name(0)", 6);
        x.grid(3, 1, 1);
        namedAre(x, "grid(3, 1, 1)");
    }

    // ---- the promises

    private static int answer(NearLiars x, String call, int set) {
        switch (call) {
            case "sort":
                return x.sort(set);
            case "crowded":
                return x.crowded(set);
            case "reached":
                return x.reached(set);
            default:
                return x.name(set);
        }
    }

    /** Just the sets without the DEALER and of NODES that there are get another answer than OUTSIDE. */
    private static void outside(String call) {
        for (int dealer = 0; dealer < 5; dealer++) {
            NearLiars x = Nets.line(5);
            x.dealer(dealer, 0);
            for (int set = -40; set <= 80; set++) {
                boolean fits = set >= 0 && set < 32 && set / (1 << dealer) % 2 == 0;
                String told = "five NODES, DEALER " + dealer + ", " + call + "(" + set + ")";
                if (fits) {
                    DOC.not(told, answer(x, call, set), OUTSIDE);
                } else {
                    DOC.due(told, answer(x, call, set), OUTSIDE);
                }
            }
        }
        NearLiars x = new NearLiars();
        x.net(12);
        x.dealer(3, 0);
        for (int n = 0; n < 32; n++) {
            String told = "twelve NODES, DEALER 3, " + call + "(1 << " + n + ")";
            if (n < 12 && n != 3) {
                DOC.not(told, answer(x, call, 1 << n), OUTSIDE);
            } else {
                DOC.due(told, answer(x, call, 1 << n), OUTSIDE);
            }
        }
        int[] bad = {4095, 4096, 4097, -1, MIN, MIN + 1, MAX};
        for (int set : bad) {
            DOC.due("twelve NODES, " + call + "(" + set + ")", answer(x, call, set), OUTSIDE);
        }
        DOC.not("all but the DEALER, " + call + "(4087)", answer(x, call, 4095 - 8), OUTSIDE);
    }

    private static void promise13() {
        DOC.of("Promise 13", "A set (without the DEALER; of NODES that there are): 0: it is not THIN; 1: it STOPS the value; 2: it is THIN and does not.");
        NearLiars x = doubled(7);
        x.need(4);
        // m of seven are in the set: THIN below 4; the last is REACHED from 4 of those left on.
        int[] want = {2, 2, 2, 2, 0, 0, 0, 0};
        for (int m = 0; m <= 7; m++) {
            DOC.due("NEED 4, sort(" + first(m) + ")", x.sort(first(m)), want[m]);
        }
        x.need(5);
        int[] more = {2, 2, 2, 1, 1, 0, 0, 0};
        for (int m = 0; m <= 7; m++) {
            DOC.due("NEED 5, sort(" + first(m) + ")", x.sort(first(m)), more[m]);
        }
        DOC.of("Promise 13", "OUTSIDE.");
        outside("sort");
    }

    private static void promise14() {
        DOC.of("Promise 14", "The least NODE not in a set that has NEED or more NEIGHBOURS in it; NONE.");
        NearLiars x = doubled(7);
        for (int need = 1; need <= 6; need++) {
            x.need(need);
            int set = first(need);
            DOC.due("NEED " + need + ", too few, crowded", x.crowded(first(need - 1)), NONE);
            DOC.due("NEED " + need + ", as many, crowded", x.crowded(set), 0);
            DOC.due("NEED " + need + ", more, crowded", x.crowded(254), 0);
        }
        x.dealer(8, 0);
        x.edge(0, 1, 0);
        x.need(1);
        DOC.due("the DEALER alone, crowded(2)", x.crowded(2), 8);
        DOC.due("the least of several, crowded(6)", x.crowded(6), 0);
        DOC.due("0 is in it, crowded(1 + 2 + 4)", x.crowded(7), 3);
        DOC.due("nobody beside 0 is, crowded(1 + 2)", x.crowded(3), 2);
        DOC.due("all but the DEALER, crowded(255)", x.crowded(255), 8);
        x.net(12);
        DOC.due("all but the DEALER, crowded(4094)", x.crowded(4094), NONE);
        DOC.of("Promise 14", "OUTSIDE: as for sort().");
        outside("crowded");
    }

    private static void promise15() {
        DOC.of("Promise 15", "REACHED with a set that says nothing.");
        NearLiars x = doubled(3);
        x.need(3);
        DOC.due("reached(0)", x.reached(0), 31);
        DOC.due("reached(2)", x.reached(2), 1 + 4 + 8);
        DOC.due("all but the DEALER, reached(30)", x.reached(30), 1);
        DOC.due("not THIN, reached(14)", x.reached(14), 1);
        x.ticks(3);
        x.lie(1, 2);
        DOC.due("1 lies, reached(0)", x.reached(0), 31);
        DOC.of("Promise 15", "OUTSIDE: as for sort().");
        outside("reached");
    }

    private static void worsts(NearLiars x, String told, int... want) {
        for (int what = 0; what < 4; what++) {
            DOC.due(told + ", worst(" + what + ")", x.worst(what), want[what]);
        }
    }

    private static void promise16() {
        DOC.of("Promise 16", "Of the WORST: 0 the set, 1 its CUT (0: nothing STOPS the value). Of THIN sets: 2 how many there are, 3 how many of them STOP it.");
        worsts(new NearLiars(), "at first", 0, 2, 2, 1);
        NearLiars x = Nets.line(2);
        worsts(x, "two that are near, NEED 1", 0, 0, 1, 0);
        x.need(2);
        worsts(x, "two that are near, NEED 2", 0, 0, 2, 0);
        x.net(12);
        worsts(x, "nobody near", 0, 4094, 2048, 2047);
        x.dealer(11, 0);
        worsts(x, "nobody near, another deals", 0, 2047, 2048, 2047);
        x = Nets.allNear();
        worsts(x, "all near, NEED 1", 0, 0, 1, 0);
        x.need(2);
        // None or one of eleven.
        worsts(x, "all near, NEED 2", 0, 0, 12, 0);
        x.need(6);
        // The DEALER sees all of them: five of eleven at most: 1 + 11 + 55 + 165 + 330 + 462.
        worsts(x, "all near, NEED 6", 0, 0, 1024, 0);
        x = doubled(3);
        x.need(3);
        worsts(x, "one of three stops it", 2, 16, 14, 6);
        x.need(2);
        worsts(x, "another NEED behind it", 0, 0, 8, 0);

        DOC.of("Promise 16", "OUTSIDE.");
        int[] bad = {-1, 4, 5, 10, NONE, MIN, MAX};
        for (int what : bad) {
            DOC.due("worst(" + what + ")", x.worst(what), OUTSIDE);
        }
    }

    private static void promise17() {
        DOC.of("Promise 17", "The greatest NEED (1 .. 6) with which no set STOPS the value; NONE: with 1 one does.");
        // k - 1 of m are THIN for NEED k; k of them must be left to reach the last: k is (m + 1) / 2.
        for (int m = 1; m <= 10; m++) {
            DOC.due("by " + m + ", bears()", doubled(m).bears(), (m + 1) / 2);
        }
        NearLiars x = Nets.star(12, 0, 1, 11);
        DOC.due("all beside the DEALER, bears()", x.bears(), 6);
        x.edge(0, 11, 0);
        DOC.due("one is alone, bears()", x.bears(), NONE);
        x.edge(10, 11, 1);
        DOC.due("one is behind another, bears()", x.bears(), 1);
        DOC.due("at first, bears()", new NearLiars().bears(), NONE);
        DOC.due("two that are near, bears()", Nets.line(2).bears(), 6);

        DOC.of("Promise 17", "(NEED stays as it is.)");
        x = doubled(7);
        for (int need = 1; need <= 6; need++) {
            x.need(need);
            x.ticks(need);
            DOC.due("NEED " + need + ", bears()", x.bears(), 4);
            DOC.due("no RUN begins by it, many(4)", x.many(4), need);
            DOC.due("need(" + need + ")", x.need(need), need);
        }
    }

    private static void promise18() {
        DOC.of("Promise 18", "The CUT of a set is NAMED: its number in the order (from 0 on;");
        NearLiars x = Nets.line(12);
        for (int i = 0; i < 6; i++) {
            DOC.due("name(" + (2 << i) + ")", x.name(2 << i), i);
            DOC.due("named(" + i + ")", x.named(i), 4096 - (4 << i));
        }
        DOC.due("a seventh, name(128)", x.name(128), 5);

        DOC.of("Promise 18", "where it is, if it was NAMED already: nothing changes then);");
        x = doubled(3);
        x.need(3);
        DOC.due("name(2)", x.name(2), 0);
        DOC.due("the same set, name(2)", x.name(2), 0);
        DOC.due("another set with that CUT, name(4)", x.name(4), 0);
        x.need(4);
        DOC.due("another NEED, that CUT, name(0)", x.name(0), 0);
        namedAre(x, "all one CUT", 16);
        x = Nets.line(12);
        for (int i = 0; i < 6; i++) {
            x.name(2 << i);
        }
        for (int i = 0; i < 6; i++) {
            DOC.due("six there are, name(" + (2 << i) + ")", x.name(2 << i), i);
        }
        namedAre(x, "six", 4092, 4088, 4080, 4064, 4032, 3968);

        DOC.of("Promise 18", "the CUT has no NODE: STATE.");
        DOC.due("all REACHED, name(0)", x.name(0), STATE);
        DOC.due("all others in it, name(4094)", x.name(4094), STATE);
        DOC.due("the end in it, name(2048)", x.name(2048), STATE);
        namedAre(x, "refused", 4092, 4088, 4080, 4064, 4032, 3968);

        DOC.of("Promise 18", "OUTSIDE: as for sort().");
        outside("name");
        NearLiars y = new NearLiars();
        DOC.due("neither a set nor a CUT, name(3)", y.name(3), OUTSIDE);
        namedAre(y, "refused");
    }

    private static void promise19() {
        DOC.of("Promise 19", "NAMED CUT k, as a set.");
        NearLiars x = Nets.line(12);
        x.name(1024);
        DOC.due("named(0)", x.named(0), 2048);
        x.net(12);
        x.name(0);
        DOC.due("named(0)", x.named(0), 4094);

        DOC.of("Promise 19", "OUTSIDE: there is no such one.");
        int[] bad = {-1, 1, 5, 6, 7, NONE, MIN, MAX};
        for (int k : bad) {
            DOC.due("one, named(" + k + ")", x.named(k), OUTSIDE);
        }
        DOC.due("none, named(0)", new NearLiars().named(0), OUTSIDE);
        x = Nets.line(12);
        for (int i = 0; i < 7; i++) {
            x.name(2 << i);
        }
        DOC.not("six, named(5)", x.named(5), OUTSIDE);
        DOC.due("six, named(6)", x.named(6), OUTSIDE);
        DOC.due("six, named(-1)", x.named(-1), OUTSIDE);
        x.net(2);
        DOC.due("laid anew, named(0)", x.named(0), OUTSIDE);
    }
}

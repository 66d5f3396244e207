/** The boundaries that part 4 (claims) and promises 20 to 26 name, sentence by sentence. */
public final class NearLiarsClaimEdges {
    private static final int UNKNOWN = -1, OUTSIDE = -2, STATE = -3, NONE = -9;
    private static final int MIN = Integer.MIN_VALUE, MAX = Integer.MAX_VALUE;
    private static final Sentences DOC = new Sentences();

    public static void main(String[] args) {
        ways();
        claimsAre();
        eightAtMost();
        behindWhichNoneAre();
        proofs();
        proofOfTheDealer();
        promise20();
        promise21();
        promise22();
        promise23();
        promise24();
        promise25();
        promise26();
        DOC.end("Part 4", "Promise 20", "Promise 21", "Promise 22", "Promise 23", "Promise 24", "Promise 25",
            "Promise 26");
    }

    /** Of CLAIM k: its value and its WAY, to the last place there can be. */
    private static void claimIs(NearLiars x, String told, int k, int value, int... way) {
        DOC.due(told + ", claim(" + k + ", 0)", x.claim(k, 0), value);
        DOC.due(told + ", claim(" + k + ", 1)", x.claim(k, 1), way.length);
        int set = 0;
        for (int i = 0; i < 12; i++) {
            int want = i < way.length ? way[i] : NONE;
            set += i < way.length ? 1 << way[i] : 0;
            DOC.due(told + ", claim(" + k + ", " + (10 + i) + ")", x.claim(k, 10 + i), want);
        }
        DOC.due(told + ", claim(" + k + ", 2)", x.claim(k, 2), set);
    }

    // ---- part 4

    private static void ways() {
        DOC.of("Part 4", "A WAY in hand: a row of NODES, the first the DEALER, each further one a NEIGHBOUR of the one ahead, none twice.");
        NearLiars x = Nets.allNear();
        x.dealer(7, 0);
        for (int n = 0; n < 12; n++) {
            if (n != 7) {
                DOC.due("not the DEALER first, walk(" + n + ")", x.walk(n), STATE);
            }
        }
        DOC.due("the DEALER, walk(7)", x.walk(7), 1);
        DOC.due("twice, walk(7)", x.walk(7), STATE);
        for (int n = 11; n >= 0; n--) {
            DOC.due("walk(" + n + ")", x.walk(n), n == 7 ? STATE : n > 7 ? 13 - n : 12 - n);
        }
        for (int n = 0; n < 12; n++) {
            DOC.due("all are in it, walk(" + n + ")", x.walk(n), STATE);
        }
        DOC.due("many(9)", x.many(9), 12);
        DOC.due("tell(3)", x.tell(3), 1);
        claimIs(x, "all twelve", 0, 3, 7, 11, 10, 9, 8, 6, 5, 4, 3, 2, 1, 0);
        x = Nets.line(4);
        Nets.along(x, 0, 1);
        DOC.due("no NEIGHBOUR of the last, walk(3)", x.walk(3), STATE);
        DOC.due("walk(2)", x.walk(2), 3);
        DOC.due("a NEIGHBOUR, but in it, walk(1)", x.walk(1), STATE);
        DOC.due("walk(3)", x.walk(3), 4);
    }

    private static void claimsAre() {
        DOC.of("Part 4", "A CLAIM: a WAY of two NODES or more, and a value.");
        NearLiars x = Nets.line(3);
        DOC.due("none, tell(1)", x.tell(1), STATE);
        x.walk(0);
        DOC.due("one, tell(1)", x.tell(1), STATE);
        x.walk(1);
        DOC.due("two, tell(1)", x.tell(1), 1);
        claimIs(x, "two", 0, 1, 0, 1);
        DOC.due("three, tell(0)", Nets.telling(x, 0, 0, 1, 2), 2);
        claimIs(x, "three", 1, 0, 0, 1, 2);
    }

    private static void eightAtMost() {
        DOC.of("Part 4", "CLAIMS, 8 at most, in the order in which they were told; a ninth one takes the place of the oldest.");
        NearLiars x = Nets.star(12, 0, 1, 11);
        for (int i = 1; i <= 8; i++) {
            DOC.due("CLAIM " + i, Nets.telling(x, i % 4, 0, i), i);
        }
        for (int k = 0; k < 8; k++) {
            claimIs(x, "eight", k, (k + 1) % 4, 0, k + 1);
        }
        DOC.due("eight, many(8)", x.many(8), 8);
        DOC.due("the ninth", Nets.telling(x, 3, 0, 9), 8);
        DOC.due("the tenth", Nets.telling(x, 2, 0, 10), 8);
        DOC.due("many(8)", x.many(8), 8);
        for (int k = 0; k < 6; k++) {
            claimIs(x, "ten", k, (k + 3) % 4, 0, k + 3);
        }
        claimIs(x, "ten", 6, 3, 0, 9);
        claimIs(x, "ten", 7, 2, 0, 10);
        DOC.due("ten, claim(8, 0)", x.claim(8, 0), OUTSIDE);
        // Long WAYS move up whole, and short ones leave nothing of them behind.
        x = Nets.line(12);
        Nets.telling(x, 0, 0, 1);
        Nets.telling(x, 1, 0, 1, 2, 3, 4, 5, 6, 7, 8, 9, 10, 11);
        for (int v = 0; v < 4; v++) {
            Nets.telling(x, v, 0, 1, 2);
        }
        Nets.telling(x, 1, 0, 1);
        Nets.telling(x, 2, 0, 1);
        DOC.due("a ninth", Nets.telling(x, 3, 0, 1), 8);
        claimIs(x, "a long one", 0, 1, 0, 1, 2, 3, 4, 5, 6, 7, 8, 9, 10, 11);
        claimIs(x, "a short one behind it", 1, 0, 0, 1, 2);
    }

    /** Two CLAIMS and a WAY of two in hand. */
    private static NearLiars claiming() {
        NearLiars x = Nets.three();
        Nets.telling(x, 1, 0, 1);
        Nets.telling(x, 2, 0, 1, 4);
        Nets.along(x, 0, 3);
        return x;
    }

    private static void left(NearLiars x, String call, int claims, int steps) {
        DOC.due(call + ", many(8)", x.many(8), claims);
        DOC.due(call + ", many(9)", x.many(9), steps);
        DOC.due(call + ", claim(0, 0)", x.claim(0, 0), claims > 0 ? 1 : OUTSIDE);
    }

    private static void behindWhichNoneAre() {
        DOC.of("Part 4", "The WAY in hand has no NODES, and there are no CLAIMS, behind each call of net, grid, edge, dealer that is not refused.");
        NearLiars x = claiming();
        left(x, "claiming", 2, 2);
        x.net(5);
        left(x, "net(5)", 0, 0);
        x = claiming();
        x.grid(5, 1, 1);
        left(x, "grid(5, 1, 1)", 0, 0);
        x = claiming();
        x.edge(1, 2, 1);
        left(x, "edge(1, 2, 1)", 0, 0);
        x = claiming();
        x.edge(0, 1, 1);
        left(x, "as it was, edge(0, 1, 1)", 0, 0);
        DOC.due("from the DEALER again, walk(4)", x.walk(4), STATE);
        DOC.due("from the DEALER again, walk(0)", x.walk(0), 1);
        x = claiming();
        x.dealer(1, 0);
        left(x, "dealer(1, 0)", 0, 0);
        DOC.due("from the new one, walk(1)", x.walk(1), 1);
        x = claiming();
        x.dealer(0, 0);
        left(x, "as it was, dealer(0, 0)", 0, 0);
        x = claiming();
        x.net(1);
        x.grid(0, 2, 1);
        x.edge(1, 1, 1);
        x.edge(0, 1, 2);
        x.dealer(5, 0);
        x.dealer(1, 4);
        left(x, "refused calls", 2, 2);
        x.need(6);
        x.lie(1, 4);
        x.begin();
        x.ticks(100);
        x.neighbours(0);
        x.worst(0);
        x.bears();
        x.name(0);
        left(x, "all other calls", 2, 2);
    }

    private static void proofs() {
        DOC.of("Part 4", "PROOF of a NODE and a value: the most CLAIMS of that value whose WAYS end at the NODE and of which no two have a NODE in common but the DEALER and that NODE");
        NearLiars x = Nets.allNear();
        DOC.due("none, proof(11, 0)", x.proof(11, 0), 0);
        // In the order of telling, 1 2 would shut out 1 and 2 3, and 3 4 would shut out 4.
        Nets.telling(x, 0, 0, 1, 2, 11);
        Nets.telling(x, 0, 0, 3, 4, 11);
        Nets.telling(x, 0, 0, 1, 11);
        Nets.telling(x, 0, 0, 2, 3, 11);
        Nets.telling(x, 0, 0, 4, 11);
        DOC.due("1, 2 3, 4: proof(11, 0)", x.proof(11, 0), 3);
        Nets.telling(x, 0, 0, 11);
        DOC.due("and nobody between, proof(11, 0)", x.proof(11, 0), 4);
        Nets.telling(x, 1, 0, 5, 11);
        Nets.telling(x, 0, 0, 11, 6);
        DOC.due("another value does not count, proof(11, 0)", x.proof(11, 0), 4);
        DOC.due("another value, proof(11, 1)", x.proof(11, 1), 1);
        DOC.due("it ends there alone, proof(6, 0)", x.proof(6, 0), 1);
        DOC.due("in the middle of it, proof(4, 0)", x.proof(4, 0), 0);
        // The same NODES in two rows have them in common.
        x.dealer(0, 0);
        Nets.telling(x, 3, 0, 1, 2, 11);
        Nets.telling(x, 3, 0, 2, 1, 11);
        DOC.due("1 2 and 2 1, proof(11, 3)", x.proof(11, 3), 1);
        // One of eleven inner NODES in common is enough, be it the first or the last of them.
        Nets.telling(x, 2, 0, 1, 3, 5, 7, 9, 11);
        Nets.telling(x, 2, 0, 2, 4, 6, 8, 9, 11);
        DOC.due("9 in common, proof(11, 2)", x.proof(11, 2), 1);
        Nets.telling(x, 2, 0, 2, 4, 6, 8, 10, 11);
        DOC.due("none in common, proof(11, 2)", x.proof(11, 2), 2);
        // The DEALER is no NODE in common, whoever it is, and NODE 0 is one as any other.
        x.dealer(11, 0);
        Nets.telling(x, 2, 11, 0, 5);
        Nets.telling(x, 2, 11, 1, 5);
        Nets.telling(x, 2, 11, 5);
        DOC.due("11 deals, proof(5, 2)", x.proof(5, 2), 3);
        Nets.telling(x, 2, 11, 0, 6, 5);
        DOC.due("11 deals, 0 in common, proof(5, 2)", x.proof(5, 2), 3);
        x = Nets.allNear();
        for (int i = 1; i <= 8; i++) {
            Nets.telling(x, 1, 0, i, 11);
            DOC.due(i + " apart, proof(11, 1)", x.proof(11, 1), i);
        }
        Nets.telling(x, 1, 0, 9, 11);
        DOC.due("nine, of which eight are kept, proof(11, 1)", x.proof(11, 1), 8);
        Nets.telling(x, 1, 0, 10);
        DOC.due("one less, proof(11, 1)", x.proof(11, 1), 7);
    }

    private static void proofOfTheDealer() {
        DOC.of("Part 4", "(0 of the DEALER: no WAY ends there).");
        NearLiars x = Nets.line(3);
        x.dealer(1, 2);
        Nets.telling(x, 2, 1, 0);
        Nets.telling(x, 2, 1, 2);
        for (int v = 0; v < 4; v++) {
            DOC.due("proof(1, " + v + ")", x.proof(1, v), 0);
        }
        DOC.due("believes(1)", x.believes(1), NONE);
    }

    // ---- the promises

    private static void promise20() {
        DOC.of("Promise 20", "A NODE comes behind those of the WAY in hand: how many it has.");
        NearLiars x = Nets.line(12);
        for (int n = 0; n < 12; n++) {
            DOC.due("walk(" + n + ")", x.walk(n), n + 1);
        }
        DOC.due("many(9)", x.many(9), 12);
        x.drop();
        DOC.due("anew, walk(0)", x.walk(0), 1);

        DOC.of("Promise 20", "UNKNOWN;");
        int[] unknown = {-1, 12, 13, 32, 33, MIN, MAX};
        for (int n : unknown) {
            DOC.due("walk(" + n + ")", x.walk(n), UNKNOWN);
        }
        x.drop();
        DOC.due("none in hand, walk(12)", x.walk(12), UNKNOWN);
        DOC.due("none in hand, walk(-1)", x.walk(-1), UNKNOWN);

        DOC.of("Promise 20", "STATE: it is not the DEALER and the WAY has none,");
        x = Nets.line(3);
        x.dealer(1, 0);
        DOC.due("walk(0)", x.walk(0), STATE);
        DOC.due("walk(2)", x.walk(2), STATE);
        DOC.due("many(9)", x.many(9), 0);
        DOC.due("walk(1)", x.walk(1), 1);

        DOC.of("Promise 20", "it is no NEIGHBOUR of the last one,");
        x = Nets.three();
        x.walk(0);
        DOC.due("walk(4)", x.walk(4), STATE);
        x.walk(1);
        DOC.due("of an earlier one, walk(2)", x.walk(2), STATE);
        DOC.due("many(9)", x.many(9), 2);
        DOC.due("walk(4)", x.walk(4), 3);
        DOC.due("of the last one, walk(2)", x.walk(2), 4);

        DOC.of("Promise 20", "or is in it.");
        DOC.due("the last itself, walk(2)", x.walk(2), STATE);
        DOC.due("a NEIGHBOUR, but the first, walk(0)", x.walk(0), STATE);
        DOC.due("a NEIGHBOUR, but ahead of it, walk(4)", x.walk(4), STATE);
        DOC.due("many(9)", x.many(9), 4);
    }

    private static void promise21() {
        DOC.of("Promise 21", "The WAY in hand and a value become a CLAIM (it has no NODES then): how many CLAIMS there are.");
        NearLiars x = Nets.three();
        for (int v = 0; v < 4; v++) {
            DOC.due("tell(" + v + ")", Nets.telling(x, v, 0, 1), v + 1);
            DOC.due("many(9)", x.many(9), 0);
            DOC.due("many(8)", x.many(8), v + 1);
        }
        for (int v = 0; v < 4; v++) {
            DOC.due("tell(" + v + ")", Nets.telling(x, v, 0, 2), v + 5);
        }
        DOC.due("a ninth, tell(0)", Nets.telling(x, 0, 0, 3), 8);

        DOC.of("Promise 21", "OUTSIDE: v;");
        int[] bad = {-1, 4, 5, NONE, MIN, MAX};
        for (int v : bad) {
            DOC.due("none in hand, tell(" + v + ")", x.tell(v), OUTSIDE);
        }
        Nets.along(x, 0, 3, 4);
        for (int v : bad) {
            DOC.due("three in hand, tell(" + v + ")", x.tell(v), OUTSIDE);
        }
        DOC.due("refused, many(9)", x.many(9), 3);

        DOC.of("Promise 21", "STATE: it has fewer than two NODES,");
        x = Nets.three();
        DOC.due("none, tell(0)", x.tell(0), STATE);
        x.walk(0);
        DOC.due("one, tell(0)", x.tell(0), STATE);
        DOC.due("refused, many(9)", x.many(9), 1);
        x.walk(1);
        DOC.due("two, tell(0)", x.tell(0), 1);
        DOC.due("none again, tell(0)", x.tell(0), STATE);

        DOC.of("Promise 21", "or there is the same CLAIM (the same NODES in the same row, the same value).");
        DOC.due("the same, tell(0)", Nets.telling(x, 0, 0, 1), STATE);
        DOC.due("refused, many(9)", x.many(9), 2);
        DOC.due("refused, many(8)", x.many(8), 1);
        DOC.due("another value, tell(1)", x.tell(1), 2);
        DOC.due("one NODE more, tell(0)", Nets.telling(x, 0, 0, 1, 4), 3);
        DOC.due("another NODE, tell(0)", Nets.telling(x, 0, 0, 2, 4), 4);
        DOC.due("further on, tell(0)", Nets.telling(x, 0, 0, 2, 4, 1), 5);
        DOC.due("the same NODES in another row, tell(0)", Nets.telling(x, 0, 0, 1, 4, 2), 6);
        DOC.due("tell(3)", Nets.telling(x, 3, 0, 3), 7);
        DOC.due("tell(2)", Nets.telling(x, 2, 0, 3), 8);
        DOC.due("eight, the oldest again, tell(0)", Nets.telling(x, 0, 0, 1), STATE);
        x.drop();
        DOC.due("eight, the newest again, tell(2)", Nets.telling(x, 2, 0, 3), STATE);
        DOC.due("a ninth, tell(1)", x.tell(1), 8);
        DOC.due("the oldest is gone, tell(0)", Nets.telling(x, 0, 0, 1), 8);
    }

    private static void promise22() {
        DOC.of("Promise 22", "The WAY in hand has no NODES: how many it had.");
        NearLiars x = Nets.line(12);
        DOC.due("none, drop()", x.drop(), 0);
        x.walk(0);
        DOC.due("one, drop()", x.drop(), 1);
        DOC.due("none any more, drop()", x.drop(), 0);
        Nets.along(x, 0, 1, 2, 3, 4, 5, 6, 7, 8, 9, 10, 11);
        DOC.due("twelve, drop()", x.drop(), 12);
        DOC.due("many(9)", x.many(9), 0);
        DOC.due("from the DEALER again, walk(1)", x.walk(1), STATE);
        DOC.due("told, tell(1)", Nets.telling(x, 1, 0, 1), 1);
        DOC.due("told, drop()", x.drop(), 0);
        DOC.due("CLAIMS stay, many(8)", x.many(8), 1);
    }

    private static void promise23() {
        DOC.of("Promise 23", "Of CLAIM k (from 0, the oldest first): 0 its value, 1 how many NODES its WAY has, 2 the set of these, 10 and i NODE i of the WAY (i 0 .. 11; NONE: it has not so many).");
        NearLiars x = Nets.line(12);
        x.dealer(11, 0);
        Nets.telling(x, 3, 11, 10, 9, 8, 7, 6, 5, 4, 3, 2, 1, 0);
        Nets.telling(x, 0, 11, 10);
        claimIs(x, "the longest", 0, 3, 11, 10, 9, 8, 7, 6, 5, 4, 3, 2, 1, 0);
        claimIs(x, "the shortest", 1, 0, 11, 10);
        Nets.along(x, 11, 10, 9);
        claimIs(x, "a WAY in hand is no CLAIM", 1, 0, 11, 10);

        DOC.of("Promise 23", "OUTSIDE: there is no such CLAIM, what.");
        int[] none = {-1, 2, 3, 7, 8, NONE, MIN, MAX};
        for (int k : none) {
            for (int what = -1; what <= 22; what++) {
                DOC.due("claim(" + k + ", " + what + ")", x.claim(k, what), OUTSIDE);
            }
        }
        int[] bad = {-1, 3, 4, 9, 22, 23, NONE, MIN, MAX};
        for (int what : bad) {
            DOC.due("claim(0, " + what + ")", x.claim(0, what), OUTSIDE);
        }
        DOC.due("none at all, claim(0, 0)", new NearLiars().claim(0, 0), OUTSIDE);
    }

    private static void promise24() {
        DOC.of("Promise 24", "PROOF of a NODE and a value.");
        NearLiars x = Nets.three();
        Nets.telling(x, 3, 0, 1, 4);
        Nets.telling(x, 3, 0, 2, 4);
        Nets.telling(x, 3, 0, 3, 4);
        Nets.telling(x, 0, 0, 3, 4);
        int[] want = {1, 0, 0, 3};
        for (int v = 0; v < 4; v++) {
            DOC.due("proof(4, " + v + ")", x.proof(4, v), want[v]);
            DOC.due("proof(1, " + v + ")", x.proof(1, v), 0);
        }
        DOC.of("Promise 24", "UNKNOWN;");
        int[] unknown = {-1, 5, 12, 32, MIN, MAX};
        for (int n : unknown) {
            DOC.due("proof(" + n + ", 3)", x.proof(n, 3), UNKNOWN);
        }
        DOC.of("Promise 24", "OUTSIDE.");
        int[] bad = {-1, 4, 5, NONE, MIN, MAX};
        for (int v : bad) {
            DOC.due("proof(4, " + v + ")", x.proof(4, v), OUTSIDE);
            DOC.due("the DEALER, proof(0, " + v + ")", x.proof(0, v), OUTSIDE);
        }
    }

    private static void promise25() {
        DOC.of("Promise 25", "The value of which a NODE has the greatest PROOF, if that is NEED or more");
        NearLiars x = Nets.allNear();
        for (int m = 1; m <= 7; m++) {
            Nets.telling(x, 2, 0, m, 11);
            for (int need = 1; need <= 6; need++) {
                x.need(need);
                DOC.due(m + " CLAIMS, NEED " + need + ", believes(11)", x.believes(11), m >= need ? 2 : NONE);
            }
        }
        Nets.telling(x, 0, 0, 8, 11);
        x.need(1);
        DOC.due("seven against one, NEED 1, believes(11)", x.believes(11), 2);
        // CLAIMS that share NODES are no more than one.
        x.dealer(0, 0);
        x.need(2);
        Nets.telling(x, 1, 0, 1, 11);
        Nets.telling(x, 1, 0, 1, 2, 11);
        Nets.telling(x, 1, 0, 2, 1, 11);
        DOC.due("three by 1, NEED 2, believes(11)", x.believes(11), NONE);
        for (int v = 0; v < 4; v++) {
            NearLiars y = Nets.line(2);
            Nets.telling(y, v, 0, 1);
            DOC.due("one of value " + v + ", believes(1)", y.believes(1), v);
        }

        DOC.of("Promise 25", "and no other value has as great a one; NONE.");
        DOC.due("nothing, NEED 1, believes(1)", Nets.line(2).believes(1), NONE);
        for (int a = 0; a < 4; a++) {
            for (int b = a + 1; b < 4; b++) {
                NearLiars y = Nets.three();
                Nets.telling(y, a, 0, 1, 4);
                Nets.telling(y, b, 0, 2, 4);
                DOC.due(a + " and " + b + " alike, believes(4)", y.believes(4), NONE);
                Nets.telling(y, b, 0, 3, 4);
                DOC.due(b + " has one more, believes(4)", y.believes(4), b);
                Nets.telling(y, a, 0, 3, 4);
                DOC.due("alike again, believes(4)", y.believes(4), NONE);
                Nets.telling(y, a, 0, 2, 4);
                DOC.due(a + " has one more, believes(4)", y.believes(4), a);
            }
        }

        DOC.of("Promise 25", "UNKNOWN.");
        int[] unknown = {-1, 12, 13, 32, MIN, MAX};
        for (int n : unknown) {
            DOC.due("believes(" + n + ")", x.believes(n), UNKNOWN);
        }
    }

    private static void manyAre(NearLiars x, String told, int... want) {
        for (int what = 0; what < want.length; what++) {
            DOC.due(told + ", many(" + what + ")", x.many(what), want[what]);
        }
    }

    private static void promise26() {
        DOC.of("Promise 26", "How many: 0 NODES, 1 twos of NEIGHBOURS, 2 FALSE ones, 3 ROUND, 4 TICKS that are over, 5 HONEST NODES that have TAKEN the DEALER's VALUE (itself counted), 6 another value, 7 NAMED CUTS, 8 CLAIMS, 9 NODES of the WAY in hand, 10 BANDS.");
        manyAre(new NearLiars(), "at first", 2, 0, 0, 1, 0, 1, 0, 0, 0, 0, 1);
        NearLiars x = new NearLiars();
        x.grid(1, 12, 1);
        x.dealer(11, 0);
        x.lie(4, 2);
        for (int i = 1; i <= 7; i++) {
            x.name(1 << i + 2);
        }
        for (int i = 0; i < 9; i++) {
            Nets.telling(x, i % 4, i < 4 ? new int[] {11, 10} : i < 8 ? new int[] {11, 10, 9} : new int[] {11, 10, 9, 8});
        }
        Nets.along(x, 11, 10, 9, 8, 7, 6, 5, 4, 3, 2, 1, 0);
        x.ticks(100);
        x.ticks(100);
        // 4 speaks in TICK 2: it misleads 0 .. 3 behind it, and 5 .. 8 ahead of the VALUE's coming.
        manyAre(x, "much", 12, 11, 1, 3, 200, 3, 8, 6, 8, 12, 12);
        x = Nets.allNear();
        manyAre(x, "all near", 12, 66, 0, 12, 0, 1, 0, 0, 0, 0, 3);
        x.ticks(1);
        manyAre(x, "all near, a TICK", 12, 66, 0, 12, 1, 12, 0, 0, 0, 0, 3);
        x = Nets.star(12, 0, 1, 11);
        x.dealer(1, 3);
        x.lie(0, 2);
        x.ticks(100);
        manyAre(x, "all misled", 12, 11, 1, 12, 100, 1, 10, 0, 0, 0, 1);

        DOC.of("Promise 26", "OUTSIDE.");
        int[] bad = {-1, 11, 12, 13, NONE, MIN, MAX};
        for (int what : bad) {
            DOC.due("many(" + what + ")", x.many(what), OUTSIDE);
        }
    }
}

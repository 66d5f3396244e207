/** The boundaries that part 2 (runs) and promises 9 to 12 name, sentence by sentence. */
public final class NearLiarsRunEdges {
    private static final int UNKNOWN = -1, OUTSIDE = -2, NONE = -9;
    private static final int MIN = Integer.MIN_VALUE, MAX = Integer.MAX_VALUE;
    private static final Sentences DOC = new Sentences();

    public static void main(String[] args) {
        slots();
        round();
        anew();
        atItsBeginning();
        turns();
        honestSpeakers();
        falseSpeakers();
        hearing();
        takingFromTheDealer();
        takingFromOthers();
        promise9();
        promise10();
        promise11();
        promise12();
        DOC.end("Part 2", "Promise 9", "Promise 10", "Promise 11", "Promise 12");
    }

    // ---- part 2

    private static void slotsAre(NearLiars x, String told, int... want) {
        for (int i = 0; i < want.length; i++) {
            DOC.due(told + ", node(" + i + ", 0)", x.node(i, 0), want[i]);
        }
    }

    private static NearLiars netOf(int n, int... ends) {
        NearLiars x = new NearLiars();
        x.net(n);
        for (int i = 0; i + 1 < ends.length; i += 2) {
            x.edge(ends[i], ends[i + 1], 1);
        }
        return x;
    }

    private static void slots() {
        DOC.of("Part 2", "SLOTS: NODES get theirs by number, 0 first: the least number from 0 on that no NODE with a lesser number has that is its NEIGHBOUR or has a NEIGHBOUR in common with it.");
        slotsAre(new NearLiars(), "none near", 0, 0);
        slotsAre(netOf(2, 0, 1), "two", 0, 1);
        slotsAre(netOf(3, 0, 2), "0 - 2", 0, 0, 1);
        slotsAre(netOf(3, 0, 2, 1, 2), "one of a greater number in common", 0, 1, 2);
        slotsAre(netOf(3, 0, 1, 0, 2), "one of a lesser number in common", 0, 1, 2);
        slotsAre(Nets.line(7), "three apart is far", 0, 1, 2, 0, 1, 2, 0);
        slotsAre(netOf(5, 0, 1, 1, 4, 4, 3), "0 is free beside 1", 0, 1, 0, 0, 2);
        slotsAre(netOf(6, 0, 1, 1, 2, 2, 5, 5, 4, 4, 3), "1 is free between 0 and 2", 0, 1, 2, 0, 1, 3);
        slotsAre(Nets.allNear(), "all near", 0, 1, 2, 3, 4, 5, 6, 7, 8, 9, 10, 11);
        slotsAre(Nets.star(12, 11, 0, 10), "11 in common", 0, 1, 2, 3, 4, 5, 6, 7, 8, 9, 10, 11);
        NearLiars x = Nets.allNear();
        x.edge(0, 1, 0);
        slotsAre(x, "no NEIGHBOURS, but many in common", 0, 1, 2, 3, 4, 5, 6, 7, 8, 9, 10, 11);
        x.net(12);
        slotsAre(x, "laid anew", 0, 0, 0, 0, 0, 0, 0, 0, 0, 0, 0, 0);
    }

    private static void round() {
        DOC.of("Part 2", "ROUND: the greatest SLOT and 1.");
        NearLiars x = new NearLiars();
        DOC.due("at first, many(3)", x.many(3), 1);
        x.edge(0, 1, 1);
        DOC.due("two, many(3)", x.many(3), 2);
        DOC.due("all near, many(3)", Nets.allNear().many(3), 12);
        // The greatest SLOT is not always that of the last NODE.
        DOC.due("0 - 1 - 2 and three alone, many(3)", netOf(6, 0, 1, 1, 2).many(3), 3);
        x = Nets.allNear();
        x.net(12);
        DOC.due("laid anew, many(3)", x.many(3), 1);
    }

    /** A RUN in which all has happened that can happen. */
    private static NearLiars running() {
        NearLiars x = new NearLiars();
        x.grid(1, 3, 1);
        x.dealer(1, 2);
        x.need(2);
        x.lie(2, 3);
        x.ticks(7);
        return x;
    }

    private static void isNew(NearLiars x, String call, int dealer) {
        DOC.due(call + ", many(4)", x.many(4), 0);
        for (int n = 0; n < 3; n++) {
            DOC.due(call + ", node(" + n + ", 1)", x.node(n, 1), n == dealer ? 2 : NONE);
            DOC.due(call + ", node(" + n + ", 2)", x.node(n, 2), n == dealer ? 0 : NONE);
            DOC.due(call + ", node(" + n + ", 3)", x.node(n, 3), 0);
            DOC.due(call + ", node(" + n + ", 4)", x.node(n, 4), 0);
            for (int v = 0; v < 4; v++) {
                DOC.due(call + ", node(" + n + ", 1" + v + ")", x.node(n, 10 + v), 0);
            }
        }
    }

    private static void isOld(NearLiars x, String call) {
        DOC.due(call + ", many(4)", x.many(4), 7);
        DOC.due(call + ", node(0, 2)", x.node(0, 2), 2);
        DOC.due(call + ", node(1, 3)", x.node(1, 3), 2);
        DOC.due(call + ", node(2, 4)", x.node(2, 4), 1);
    }

    private static void anew() {
        DOC.of("Part 2", "A RUN begins anew with begin(), and with each call of 1 that is not refused (net, grid, edge, dealer, need, lie), even if nothing becomes another thing by it:");
        NearLiars x = running();
        isOld(x, "7 TICKS");
        x.begin();
        isNew(x, "begin()", 1);
        x = running();
        x.net(3);
        isNew(x, "net(3)", 0);
        x = running();
        x.grid(1, 3, 1);
        isNew(x, "grid(1, 3, 1)", 0);
        x = running();
        x.edge(0, 1, 1);
        isNew(x, "as it was, edge(0, 1, 1)", 1);
        x = running();
        x.edge(0, 2, 0);
        isNew(x, "as it was, edge(0, 2, 0)", 1);
        x = running();
        x.dealer(1, 2);
        isNew(x, "as it was, dealer(1, 2)", 1);
        x = running();
        x.need(2);
        isNew(x, "as it was, need(2)", 1);
        x = running();
        x.lie(2, 3);
        isNew(x, "as it was, lie(2, 3)", 1);
        x = running();
        x.lie(0, NONE);
        isNew(x, "as it was, lie(0, NONE)", 1);

        x = running();
        x.net(13);
        x.grid(4, 4, 1);
        x.edge(0, 0, 1);
        x.dealer(1, 4);
        x.need(7);
        x.lie(1, 0);
        isOld(x, "refused calls");
        x.neighbours(0);
        isOld(x, "neighbours(0)");
    }

    private static void atItsBeginning() {
        DOC.of("Part 2", "nobody has heard or TAKEN anything, but the DEALER, who has TAKEN its VALUE at TICK 0; no TICK is over.");
        NearLiars x = running();
        x.begin();
        isNew(x, "begin()", 1);
        DOC.due("many(5)", x.many(5), 1);
        DOC.due("many(6)", x.many(6), 0);
        x = new NearLiars();
        DOC.due("at first, node(0, 1)", x.node(0, 1), 0);
        DOC.due("at first, node(0, 2)", x.node(0, 2), 0);
        DOC.due("at first, node(1, 1)", x.node(1, 1), NONE);
        DOC.due("at first, many(4)", x.many(4), 0);
        // The SLOTS are there ahead of the first TICK.
        DOC.due("node(11, 0)", Nets.allNear().node(11, 0), 11);
    }

    private static void turns() {
        DOC.of("Part 2", "TICK t (1, 2, ..) is that of SLOT (t - 1) by ROUND, what is left: each NODE with that SLOT SPEAKS:");
        // Twelve SLOTS: the DEALER's is the last, and the others' turn comes again in the second ROUND.
        NearLiars x = Nets.allNear();
        x.dealer(11, 3);
        for (int t = 1; t <= 26; t++) {
            DOC.due("TICK " + t + ", ticks(1)", x.ticks(1), t == 12 ? 11 : 0);
            DOC.due("TICK " + t + ", the DEALER, node(11, 4)", x.node(11, 4), t >= 12 ? 1 : 0);
            DOC.due("TICK " + t + ", node(0, 4)", x.node(0, 4), t >= 13 ? 1 : 0);
            DOC.due("TICK " + t + ", node(10, 4)", x.node(10, 4), t >= 23 ? 1 : 0);
        }
        // One SLOT: each TICK is its; two with one SLOT speak at once.
        x = new NearLiars();
        x.net(3);
        x.lie(1, 0);
        x.lie(2, 1);
        x.ticks(1);
        for (int n = 0; n < 3; n++) {
            DOC.due("one SLOT, node(" + n + ", 4)", x.node(n, 4), 1);
        }
        // Three SLOTS; a step against their order takes two TICKS, over the ends of ROUNDS.
        x = Nets.line(12);
        x.dealer(11, 1);
        x.ticks(2);
        x.ticks(100);
        for (int n = 0; n < 11; n++) {
            DOC.due("a line, node(" + n + ", 2)", x.node(n, 2), 3 + 2 * (10 - n));
        }
    }

    private static void honestSpeakers() {
        DOC.of("Part 2", "an HONEST one that has TAKEN a value says that, once in a RUN;");
        NearLiars x = Nets.line(3);
        x.dealer(0, 2);
        x.need(2);
        x.ticks(100);
        DOC.due("it has TAKEN nothing, node(2, 4)", x.node(2, 4), 0);
        DOC.due("the DEALER says its VALUE once, node(1, 12)", x.node(1, 12), 1);
        DOC.due("it says what it has TAKEN once, node(2, 12)", x.node(2, 12), 1);
        DOC.due("said once, node(2, 3)", x.node(2, 3), 1);
        x.begin();
        x.ticks(3);
        DOC.due("in another RUN again, node(2, 12)", x.node(2, 12), 1);
        // 1 has TAKEN a lie and says that, not the VALUE.
        x = Nets.line(4);
        x.dealer(3, 1);
        x.lie(0, 2);
        x.ticks(2);
        DOC.due("misled, node(2, 12)", x.node(2, 12), 1);
    }

    private static void falseSpeakers() {
        DOC.of("Part 2", "a FALSE one its LIE (not 4), once in a RUN, too.");
        NearLiars x = Nets.line(3);
        x.need(6);
        x.lie(2, 3);
        x.ticks(2);
        DOC.due("ahead of its turn, node(2, 4)", x.node(2, 4), 0);
        x.ticks(1);
        DOC.due("node(2, 4)", x.node(2, 4), 1);
        x.ticks(100);
        DOC.due("once, node(1, 13)", x.node(1, 13), 1);
        x.begin();
        x.ticks(100);
        DOC.due("in another RUN again, node(1, 13)", x.node(1, 13), 1);
        // Of NEED 2 one FALSE one is not two, however many ROUNDS there are.
        x = Nets.line(3);
        x.dealer(0, 0);
        x.edge(0, 1, 0);
        x.need(2);
        x.lie(2, 3);
        x.ticks(100);
        DOC.due("once, node(1, 1)", x.node(1, 1), NONE);
        x.lie(2, 4);
        x.ticks(100);
        DOC.due("LIE 4, node(1, 3)", x.node(1, 3), 0);
        DOC.due("LIE 4, node(2, 4)", x.node(2, 4), 0);
    }

    private static void hearing() {
        DOC.of("Part 2", "All its NEIGHBOURS hear it (the DEALER and FALSE ones, too, who take nothing by it).");
        NearLiars x = Nets.star(12, 11, 0, 10);
        x.dealer(3, 1);
        x.lie(11, 2);
        x.lie(5, 4);
        // 11 speaks in TICK 12; nobody but it hears the DEALER.
        DOC.due("ticks(12)", x.ticks(12), 9);
        for (int n = 0; n < 11; n++) {
            DOC.due("node(" + n + ", 12)", x.node(n, 12), 1);
        }
        DOC.due("the DEALER, node(3, 1)", x.node(3, 1), 1);
        DOC.due("the DEALER, node(3, 2)", x.node(3, 2), 0);
        DOC.due("a FALSE one, node(5, 1)", x.node(5, 1), NONE);
        DOC.due("a FALSE one, node(5, 2)", x.node(5, 2), NONE);
        DOC.due("FALSE, beside the DEALER, node(11, 11)", x.node(11, 11), 1);
        DOC.due("FALSE, beside the DEALER, node(11, 1)", x.node(11, 1), NONE);
        DOC.due("itself does not hear it, node(11, 12)", x.node(11, 12), 0);
        // Not a NEIGHBOUR: nothing is heard.
        x = Nets.line(3);
        x.ticks(1);
        DOC.due("two away, node(2, 3)", x.node(2, 3), 0);
    }

    private static void takingFromTheDealer() {
        DOC.of("Part 2", "An HONEST NODE that has TAKEN nothing yet TAKES a value as it hears it from the DEALER;");
        for (int need = 1; need <= 6; need++) {
            NearLiars x = Nets.line(2);
            x.dealer(0, 3);
            x.need(need);
            DOC.due("NEED " + need + ", ticks(1)", x.ticks(1), 1);
            DOC.due("NEED " + need + ", node(1, 1)", x.node(1, 1), 3);
            DOC.due("NEED " + need + ", node(1, 2)", x.node(1, 2), 1);
        }
        // 0 lies to 1 ahead of the DEALER's word: with NEED 1 that is TAKEN and stays.
        NearLiars x = Nets.line(3);
        x.dealer(2, 1);
        x.lie(0, 3);
        x.ticks(3);
        DOC.due("NEED 1, node(1, 1)", x.node(1, 1), 3);
        DOC.due("NEED 1, node(1, 2)", x.node(1, 2), 1);
        DOC.due("NEED 1, node(1, 11)", x.node(1, 11), 1);
        x.need(2);
        x.ticks(3);
        DOC.due("NEED 2, node(1, 1)", x.node(1, 1), 1);
        DOC.due("NEED 2, node(1, 2)", x.node(1, 2), 3);
    }

    /** The FALSE ones 1 .. 7 beside 8, whom they speak to in TICKS 1 .. 7, and a DEALER beside nobody. */
    private static NearLiars seven(int need, int... lies) {
        NearLiars x = Nets.star(9, 8, 1, 7);
        x.need(need);
        for (int i = 1; i <= 7; i++) {
            x.lie(i, i <= lies.length ? lies[i - 1] : 4);
        }
        return x;
    }

    private static void takingFromOthers() {
        DOC.of("Part 2", "or as it has heard it from NEED NODES (each counted once).");
        for (int need = 1; need <= 6; need++) {
            NearLiars x = seven(need, 2, 2, 2, 2, 2, 2, 2);
            DOC.due("NEED " + need + ", one too few, ticks(" + (need - 1) + ")", x.ticks(need - 1), 0);
            DOC.due("NEED " + need + ", one too few, node(8, 1)", x.node(8, 1), NONE);
            DOC.due("NEED " + need + ", ticks(1)", x.ticks(1), 1);
            DOC.due("NEED " + need + ", node(8, 1)", x.node(8, 1), 2);
            DOC.due("NEED " + need + ", node(8, 2)", x.node(8, 2), need);
            DOC.due("NEED " + need + ", nothing more, ticks(100)", x.ticks(100), 0);
            DOC.due("NEED " + need + ", node(8, 12)", x.node(8, 12), 7);
        }
        NearLiars x = seven(3, 0, 0, 4, 4, 4, 4, 4);
        x.ticks(100);
        DOC.due("NEED 3, two speak once each, node(8, 1)", x.node(8, 1), NONE);
        x = seven(2, 0, 1, 2, 3);
        x.ticks(100);
        DOC.due("NEED 2, four values, node(8, 1)", x.node(8, 1), NONE);
        DOC.due("NEED 2, four values, node(8, 3)", x.node(8, 3), 4);
        x = seven(3, 0, 1, 0, 1, 1, 0, 0);
        x.ticks(100);
        DOC.due("the first with three stays, node(8, 1)", x.node(8, 1), 1);
        DOC.due("the first with three stays, node(8, 2)", x.node(8, 2), 5);
        DOC.due("four say another, node(8, 10)", x.node(8, 10), 4);
    }

    // ---- the promises

    private static void promise9() {
        DOC.of("Promise 9", "The RUN begins anew: how many TICKS are over in the one that ends.");
        NearLiars x = new NearLiars();
        DOC.due("at first, begin()", x.begin(), 0);
        x.ticks(100);
        x.ticks(100);
        x.ticks(0);
        x.ticks(1);
        DOC.due("begin()", x.begin(), 201);
        DOC.due("none in the new one, begin()", x.begin(), 0);
        x.ticks(101);
        DOC.due("refused TICKS, begin()", x.begin(), 0);
        x = running();
        DOC.due("running, begin()", x.begin(), 7);
        isNew(x, "begin()", 1);
        DOC.due("its lies stay, many(2)", x.many(2), 1);
    }

    private static void promise10() {
        DOC.of("Promise 10", "n TICKS (0 .. 100): how many NODES TOOK a value in them.");
        NearLiars x = Nets.allNear();
        DOC.due("none, ticks(0)", x.ticks(0), 0);
        DOC.due("none, many(4)", x.many(4), 0);
        DOC.due("the DEALER is not counted, ticks(100)", x.ticks(100), 11);
        DOC.due("the most, many(4)", x.many(4), 100);
        DOC.due("all have TAKEN, ticks(100)", x.ticks(100), 0);
        DOC.due("again the most, many(4)", x.many(4), 200);
        x.lie(4, 0);
        x.lie(5, 4);
        DOC.due("FALSE ones are not counted, ticks(1)", x.ticks(1), 9);
        x = Nets.line(3);
        x.lie(2, 3);
        x.edge(0, 1, 0);
        DOC.due("another value counts, ticks(100)", x.ticks(100), 1);
        x = seven(6, 1, 1, 1, 1, 1, 2, 2);
        DOC.due("heard, but not TAKEN, ticks(100)", x.ticks(100), 0);
        x = Nets.line(3);
        DOC.due("only those in these, ticks(1)", x.ticks(1), 1);
        DOC.due("only those in these, ticks(1)", x.ticks(1), 1);
        DOC.due("only those in these, ticks(1)", x.ticks(1), 0);

        DOC.of("Promise 10", "OUTSIDE.");
        int[] bad = {-1, 101, 102, NONE, MIN, MAX};
        for (int n : bad) {
            DOC.due("ticks(" + n + ")", x.ticks(n), OUTSIDE);
            DOC.due("refused, many(4)", x.many(4), 3);
        }
    }

    private static void nodeIs(NearLiars x, int n, int... want) {
        for (int what = 0; what < 5; what++) {
            DOC.due("node(" + n + ", " + what + ")", x.node(n, what), want[what]);
        }
        for (int v = 0; v < 4; v++) {
            DOC.due("node(" + n + ", 1" + v + ")", x.node(n, 10 + v), want[5 + v]);
        }
    }

    private static void promise11() {
        DOC.of("Promise 11", "Of a NODE: 0 its SLOT, 1 what it has TAKEN (NONE: nothing), 2 the TICK in which it TOOK that (NONE), 3 how many it has heard, 4 whether it has SPOKEN (1, 0), 10 and v how many it has heard say the value v (0 .. 3).");
        NearLiars x = seven(2, 0, 1, 2, 3, 3, 0, 4);
        nodeIs(x, 8, 7, NONE, NONE, 0, 0, 0, 0, 0, 0);
        x.ticks(4);
        nodeIs(x, 8, 7, NONE, NONE, 4, 0, 1, 1, 1, 1);
        x.ticks(1);
        nodeIs(x, 8, 7, 3, 5, 5, 0, 1, 1, 1, 2);
        x.ticks(100);
        nodeIs(x, 8, 7, 3, 5, 6, 1, 2, 1, 1, 2);
        nodeIs(x, 7, 6, NONE, NONE, 1, 0, 0, 0, 0, 1);
        nodeIs(x, 1, 0, NONE, NONE, 1, 1, 0, 0, 0, 1);
        nodeIs(x, 0, 0, 0, 0, 0, 1, 0, 0, 0, 0);
        DOC.due("all eleven heard, node(11, 3)", heardByLast(), 11);

        DOC.of("Promise 11", "UNKNOWN;");
        int[] unknown = {-1, 9, 12, 32, MIN, MAX};
        for (int n : unknown) {
            for (int what = -1; what <= 14; what++) {
                DOC.due("node(" + n + ", " + what + ")", x.node(n, what), UNKNOWN);
            }
        }
        DOC.of("Promise 11", "OUTSIDE.");
        int[] bad = {-1, -2, 5, 6, 9, 14, 15, NONE, MIN, MAX};
        for (int what : bad) {
            DOC.due("node(8, " + what + ")", x.node(8, what), OUTSIDE);
        }
    }

    private static int heardByLast() {
        NearLiars x = Nets.allNear();
        x.ticks(100);
        return x.node(11, 3);
    }

    private static void bandIs(NearLiars x, String told, int y, int... want) {
        for (int what = 0; what < 4; what++) {
            DOC.due(told + ", band(" + y + ", " + what + ")", x.band(y, what), want[what]);
        }
    }

    private static void promise12() {
        DOC.of("Promise 12", "Of a BAND: 0 how many HONEST NODES it has, 1 how many of them have TAKEN the DEALER's VALUE, 2 another value, 3 the greatest TICK in which one of its HONEST NODES TOOK a value (NONE: some have TAKEN nothing yet, or it has none).");
        NearLiars x = new NearLiars();
        x.grid(1, 4, 1);
        x.dealer(0, 3);
        bandIs(x, "the DEALER alone", 0, 1, 1, 0, 0);
        bandIs(x, "nothing yet", 1, 1, 0, 0, NONE);
        x.ticks(1);
        bandIs(x, "beside the DEALER", 1, 1, 1, 0, 1);
        x.lie(1, 4);
        bandIs(x, "no HONEST ones", 1, 0, 0, 0, NONE);
        x.lie(1, 0);
        x.ticks(100);
        bandIs(x, "no HONEST ones", 1, 0, 0, 0, NONE);
        bandIs(x, "misled", 2, 1, 0, 1, 2);

        // 0 deals to 1 and, in the second BAND, to 2 and 3; 4 and 5 hear it from these.
        x.grid(2, 3, 1);
        x.need(2);
        x.ticks(1);
        bandIs(x, "the greatest of 0 and 1", 0, 2, 2, 0, 1);
        bandIs(x, "nothing yet", 2, 2, 0, 0, NONE);
        // 5 hears it from 2 (TICK 3) and from 4, who has it from 2 and 3 (TICK 4).
        x.edge(3, 5, 0);
        x.ticks(100);
        bandIs(x, "the greatest of 4 and 5", 2, 2, 2, 0, 5);
        x.edge(4, 5, 0);
        x.ticks(100);
        bandIs(x, "one of two has TAKEN nothing", 2, 2, 1, 0, NONE);
        x.lie(5, 4);
        x.ticks(100);
        bandIs(x, "that one is FALSE", 2, 1, 1, 0, 4);
        x = Nets.line(3);
        x.dealer(2, 0);
        x.lie(1, 3);
        x.ticks(6);
        bandIs(x, "one with the VALUE, one without", 0, 2, 1, 1, 2);

        DOC.of("Promise 12", "OUTSIDE: the BAND, what.");
        x.grid(2, 3, 1);
        int[] bad = {-1, 4, 5, 10, NONE, MIN, MAX};
        for (int what : bad) {
            DOC.due("band(0, " + what + ")", x.band(0, what), OUTSIDE);
        }
        int[] none = {-1, 3, 4, 12, NONE, MIN, MAX};
        for (int y : none) {
            for (int what = 0; what < 4; what++) {
                DOC.due("band(" + y + ", " + what + ")", x.band(y, what), OUTSIDE);
            }
        }
        DOC.not("the last BAND, band(2, 0)", x.band(2, 0), OUTSIDE);
    }
}

import java.util.ArrayList;
import java.util.List;
import java.util.function.Supplier;
import java.util.function.ToIntFunction;

/** The boundaries that the document's 'Terms' name: refusals, their order, and sets as bits. */
public final class NearLiarsRefusals {
    private static final int UNKNOWN = -1, OUTSIDE = -2, STATE = -3, NONE = -9;
    private static final int MIN = Integer.MIN_VALUE, MAX = Integer.MAX_VALUE;
    private static final Sentences DOC = new Sentences();

    private record Refused(String call, int want, ToIntFunction<NearLiars> made) {
    }

    public static void main(String[] args) {
        theFirstThatFits();
        nothingChanges();
        constants();
        bits();
        DOC.end("Terms");
    }

    // ---- the order

    private static void theFirstThatFits() {
        DOC.of("Terms", "REFUSALS: of a call's line the first that fits is answered: UNKNOWN (there is no such NODE), OUTSIDE (another number is not as told), STATE (as told);");
        NearLiars x = Nets.line(3);
        int[] unknown = {-1, 3, MIN, MAX};
        for (int n : unknown) {
            DOC.due("all three, edge(" + n + ", " + n + ", 2)", x.edge(n, n, 2), UNKNOWN);
            DOC.due("UNKNOWN and OUTSIDE, edge(" + n + ", 0, -1)", x.edge(n, 0, -1), UNKNOWN);
            DOC.due("UNKNOWN and OUTSIDE, edge(0, " + n + ", -1)", x.edge(0, n, -1), UNKNOWN);
            DOC.due("UNKNOWN and STATE, edge(" + n + ", " + n + ", 1)", x.edge(n, n, 1), UNKNOWN);
            DOC.due("UNKNOWN and OUTSIDE, dealer(" + n + ", 4)", x.dealer(n, 4), UNKNOWN);
            DOC.due("UNKNOWN and OUTSIDE, lie(" + n + ", 5)", x.lie(n, 5), UNKNOWN);
            DOC.due("UNKNOWN and OUTSIDE, node(" + n + ", 5)", x.node(n, 5), UNKNOWN);
            DOC.due("UNKNOWN and OUTSIDE, proof(" + n + ", 4)", x.proof(n, 4), UNKNOWN);
            DOC.due("UNKNOWN and STATE, walk(" + n + ")", x.walk(n), UNKNOWN);
        }
        DOC.due("OUTSIDE and STATE, edge(1, 1, 2)", x.edge(1, 1, 2), OUTSIDE);
        DOC.due("OUTSIDE and STATE, lie(0, 5)", x.lie(0, 5), OUTSIDE);
        DOC.due("OUTSIDE and STATE, name(7)", x.name(7), OUTSIDE);
        DOC.due("OUTSIDE and STATE, tell(4), none in hand", x.tell(4), OUTSIDE);
        x.walk(0);
        DOC.due("OUTSIDE and STATE, tell(-1), one in hand", x.tell(-1), OUTSIDE);
    }

    // ---- that nothing changes

    /** FALSE ones, two NAMED CUTS, three CLAIMS, a WAY in hand, a RUN under way. */
    private static NearLiars busy() {
        NearLiars x = new NearLiars();
        x.grid(2, 3, 1);
        x.dealer(1, 2);
        x.need(2);
        x.lie(3, 0);
        x.lie(4, 4);
        x.name(8 + 4);
        x.name(8);
        Nets.telling(x, 1, 1, 0);
        Nets.telling(x, 1, 1, 3, 5);
        Nets.telling(x, 2, 1, 2, 5);
        Nets.along(x, 1, 2, 4);
        x.ticks(4);
        return x;
    }

    /** Six NAMED CUTS, eight CLAIMS, all NODES in hand (the same as the oldest CLAIM), a RUN that is over. */
    private static NearLiars full() {
        NearLiars x = Nets.line(6);
        x.dealer(0, 3);
        x.lie(5, 1);
        int[] sets = {2, 4, 8, 16, 2 + 8, 2 + 16};
        for (int set : sets) {
            x.name(set);
        }
        Nets.telling(x, 0, 0, 1, 2, 3, 4, 5);
        for (int i = 0; i < 7; i++) {
            Nets.telling(x, i % 4, i < 4 ? new int[] {0, 1} : new int[] {0, 1, 2});
        }
        Nets.along(x, 0, 1, 2, 3, 4, 5);
        x.ticks(50);
        return x;
    }

    /** Nothing in hand, one CLAIM. */
    private static NearLiars emptyHanded() {
        NearLiars x = Nets.line(6);
        x.need(1);
        Nets.telling(x, 0, 0, 1);
        x.ticks(2);
        return x;
    }

    /** Calls that each of these objects refuses: they have six NODES. */
    private static List<Refused> refused() {
        List<Refused> all = new ArrayList<>();
        int[] odd = {MIN, -7, -1, 13, 101, 1 << 16, MAX};
        for (int b : odd) {
            all.add(new Refused("net(" + b + ")", OUTSIDE, x -> x.net(b)));
            all.add(new Refused("grid(" + b + ", 1, 1)", OUTSIDE, x -> x.grid(b, 1, 1)));
            all.add(new Refused("grid(2, " + b + ", 1)", OUTSIDE, x -> x.grid(2, b, 1)));
            all.add(new Refused("grid(2, 2, " + b + ")", OUTSIDE, x -> x.grid(2, 2, b)));
            all.add(new Refused("edge(" + b + ", 1, 1)", UNKNOWN, x -> x.edge(b, 1, 1)));
            all.add(new Refused("edge(1, " + b + ", 0)", UNKNOWN, x -> x.edge(1, b, 0)));
            all.add(new Refused("edge(0, 1, " + b + ")", OUTSIDE, x -> x.edge(0, 1, b)));
            all.add(new Refused("neighbours(" + b + ")", UNKNOWN, x -> x.neighbours(b)));
            all.add(new Refused("dealer(" + b + ", 1)", UNKNOWN, x -> x.dealer(b, 1)));
            all.add(new Refused("dealer(5, " + b + ")", OUTSIDE, x -> x.dealer(5, b)));
            all.add(new Refused("need(" + b + ")", OUTSIDE, x -> x.need(b)));
            all.add(new Refused("lie(" + b + ", 1)", UNKNOWN, x -> x.lie(b, 1)));
            all.add(new Refused("lie(2, " + b + ")", OUTSIDE, x -> x.lie(2, b)));
            all.add(new Refused("node(" + b + ", 0)", UNKNOWN, x -> x.node(b, 0)));
            all.add(new Refused("band(" + b + ", 0)", OUTSIDE, x -> x.band(b, 0)));
            all.add(new Refused("band(0, " + b + ")", OUTSIDE, x -> x.band(0, b)));
            all.add(new Refused("worst(" + b + ")", OUTSIDE, x -> x.worst(b)));
            all.add(new Refused("named(" + b + ")", OUTSIDE, x -> x.named(b)));
            all.add(new Refused("walk(" + b + ")", UNKNOWN, x -> x.walk(b)));
            all.add(new Refused("tell(" + b + ")", OUTSIDE, x -> x.tell(b)));
            all.add(new Refused("claim(" + b + ", 0)", OUTSIDE, x -> x.claim(b, 0)));
            all.add(new Refused("proof(" + b + ", 0)", UNKNOWN, x -> x.proof(b, 0)));
            all.add(new Refused("proof(5, " + b + ")", OUTSIDE, x -> x.proof(5, b)));
            all.add(new Refused("believes(" + b + ")", UNKNOWN, x -> x.believes(b)));
            all.add(new Refused("many(" + b + ")", OUTSIDE, x -> x.many(b)));
        }
        int[] noTicks = {MIN, -1, 101, MAX};
        for (int n : noTicks) {
            all.add(new Refused("ticks(" + n + ")", OUTSIDE, x -> x.ticks(n)));
        }
        int[] noSets = {MIN, -1, 64, 63, 65, 1 << 30, MAX};
        for (int set : noSets) {
            all.add(new Refused("sort(" + set + ")", OUTSIDE, x -> x.sort(set)));
            all.add(new Refused("crowded(" + set + ")", OUTSIDE, x -> x.crowded(set)));
            all.add(new Refused("reached(" + set + ")", OUTSIDE, x -> x.reached(set)));
            all.add(new Refused("name(" + set + ")", OUTSIDE, x -> x.name(set)));
        }
        all.add(new Refused("net(1)", OUTSIDE, x -> x.net(1)));
        all.add(new Refused("grid(1, 1, 1)", OUTSIDE, x -> x.grid(1, 1, 1)));
        all.add(new Refused("grid(7, 2, 1)", OUTSIDE, x -> x.grid(7, 2, 1)));
        all.add(new Refused("grid(2, 2, 0)", OUTSIDE, x -> x.grid(2, 2, 0)));
        all.add(new Refused("grid(2, 2, 4)", OUTSIDE, x -> x.grid(2, 2, 4)));
        all.add(new Refused("edge(0, 6, 1)", UNKNOWN, x -> x.edge(0, 6, 1)));
        all.add(new Refused("edge(0, 1, 2)", OUTSIDE, x -> x.edge(0, 1, 2)));
        all.add(new Refused("edge(3, 3, 1)", STATE, x -> x.edge(3, 3, 1)));
        all.add(new Refused("edge(3, 3, 0)", STATE, x -> x.edge(3, 3, 0)));
        all.add(new Refused("dealer(6, 0)", UNKNOWN, x -> x.dealer(6, 0)));
        all.add(new Refused("dealer(4, 4)", OUTSIDE, x -> x.dealer(4, 4)));
        all.add(new Refused("need(0)", OUTSIDE, x -> x.need(0)));
        all.add(new Refused("need(7)", OUTSIDE, x -> x.need(7)));
        all.add(new Refused("lie(6, NONE)", UNKNOWN, x -> x.lie(6, NONE)));
        all.add(new Refused("lie(5, 5)", OUTSIDE, x -> x.lie(5, 5)));
        all.add(new Refused("node(0, 5)", OUTSIDE, x -> x.node(0, 5)));
        all.add(new Refused("node(0, 9)", OUTSIDE, x -> x.node(0, 9)));
        all.add(new Refused("node(0, 14)", OUTSIDE, x -> x.node(0, 14)));
        all.add(new Refused("band(0, 4)", OUTSIDE, x -> x.band(0, 4)));
        all.add(new Refused("worst(4)", OUTSIDE, x -> x.worst(4)));
        all.add(new Refused("named(6)", OUTSIDE, x -> x.named(6)));
        all.add(new Refused("claim(8, 0)", OUTSIDE, x -> x.claim(8, 0)));
        all.add(new Refused("claim(0, 3)", OUTSIDE, x -> x.claim(0, 3)));
        all.add(new Refused("claim(0, 9)", OUTSIDE, x -> x.claim(0, 9)));
        all.add(new Refused("claim(0, 22)", OUTSIDE, x -> x.claim(0, 22)));
        all.add(new Refused("walk(6)", UNKNOWN, x -> x.walk(6)));
        all.add(new Refused("tell(4)", OUTSIDE, x -> x.tell(4)));
        all.add(new Refused("proof(0, 4)", OUTSIDE, x -> x.proof(0, 4)));
        all.add(new Refused("many(11)", OUTSIDE, x -> x.many(11)));
        return all;
    }

    private static void nothingChanges() {
        DOC.of("Terms", "they change nothing.");
        for (Refused r : refused()) {
            changesNothing("busy", NearLiarsRefusals::busy, r);
            changesNothing("full", NearLiarsRefusals::full, r);
            changesNothing("empty-handed", NearLiarsRefusals::emptyHanded, r);
        }
        // What is refused as STATE in one of them alone.
        for (int v = 0; v <= 5; v++) {
            int lie = v < 5 ? v : NONE;
            changesNothing("busy", NearLiarsRefusals::busy, new Refused("lie(1, " + lie + ")", STATE, x -> x.lie(1, lie)));
            changesNothing("full", NearLiarsRefusals::full, new Refused("lie(0, " + lie + ")", STATE, x -> x.lie(0, lie)));
        }
        for (int n = 0; n < 6; n++) {
            int to = n;
            changesNothing("full", NearLiarsRefusals::full, new Refused("walk(" + n + ")", STATE, x -> x.walk(to)));
        }
        changesNothing("busy", NearLiarsRefusals::busy, new Refused("walk(1), in it", STATE, x -> x.walk(1)));
        changesNothing("busy", NearLiarsRefusals::busy, new Refused("walk(0), not near", STATE, x -> x.walk(0)));
        changesNothing("busy", NearLiarsRefusals::busy, new Refused("name(0), no CUT", STATE, x -> x.name(0)));
        changesNothing("busy", NearLiarsRefusals::busy, new Refused("band(3, 0)", OUTSIDE, x -> x.band(3, 0)));
        changesNothing("busy", NearLiarsRefusals::busy, new Refused("named(2)", OUTSIDE, x -> x.named(2)));
        changesNothing("busy", NearLiarsRefusals::busy, new Refused("claim(3, 0)", OUTSIDE, x -> x.claim(3, 0)));
        changesNothing("full", NearLiarsRefusals::full, new Refused("tell(0), told already", STATE, x -> x.tell(0)));
        changesNothing("full", NearLiarsRefusals::full, new Refused("name(0), no CUT", STATE, x -> x.name(0)));
        changesNothing("full", NearLiarsRefusals::full, new Refused("band(1, 0)", OUTSIDE, x -> x.band(1, 0)));
        changesNothing("empty-handed", NearLiarsRefusals::emptyHanded, new Refused("walk(1)", STATE, x -> x.walk(1)));
        changesNothing("empty-handed", NearLiarsRefusals::emptyHanded, new Refused("tell(0)", STATE, x -> x.tell(0)));
        changesNothing("empty-handed", NearLiarsRefusals::emptyHanded, new Refused("named(0)", OUTSIDE, x -> x.named(0)));
        changesNothing("empty-handed", NearLiarsRefusals::emptyHanded, new Refused("claim(1, 0)", OUTSIDE, x -> x.claim(1, 0)));
    }

    /** Two that were made alike, one with the refused call, must answer alike from then on. */
    private static void changesNothing(String kind, Supplier<NearLiars> maker, Refused refused) {
        NearLiars with = maker.get();
        NearLiars without = maker.get();
        String told = kind + ", " + refused.call();
        DOC.due(told, refused.made().applyAsInt(with), refused.want());
        List<String> a = allAnswers(with);
        List<String> b = allAnswers(without);
        for (int i = 0; i < b.size(); i++) {
            if (!a.get(i).equals(b.get(i))) {
                DOC.due(told + " changes something: now " + a.get(i) + ", without it " + b.get(i), 1, 0);
                return;
            }
        }
        DOC.due(told + " changes nothing", a.size(), b.size());
    }

    /** All that can be seen of an object of six NODES; what it hides is drawn out at the end. */
    private static List<String> allAnswers(NearLiars x) {
        List<String> all = new ArrayList<>();
        for (int what = 0; what <= 10; what++) {
            all.add("many(" + what + ") " + x.many(what));
        }
        for (int n = 0; n < 6; n++) {
            all.add("neighbours(" + n + ") " + x.neighbours(n));
            for (int what = 0; what <= 13; what += what == 4 ? 6 : 1) {
                all.add("node(" + n + ", " + what + ") " + x.node(n, what));
            }
            for (int v = 0; v < 4; v++) {
                all.add("proof(" + n + ", " + v + ") " + x.proof(n, v));
            }
            all.add("believes(" + n + ") " + x.believes(n));
            all.add("named(" + n + ") " + x.named(n));
        }
        for (int i = 0; i < 12; i++) {
            all.add("band(" + i / 4 + ", " + i % 4 + ") " + x.band(i / 4, i % 4));
        }
        for (int k = 0; k < 8; k++) {
            for (int what = 0; what <= 15; what += what == 2 ? 8 : 1) {
                all.add("claim(" + k + ", " + what + ") " + x.claim(k, what));
            }
        }
        for (int what = 0; what < 4; what++) {
            all.add("worst(" + what + ") " + x.worst(what));
        }
        all.add("bears() " + x.bears());
        drawOut(x, all);
        return all;
    }

    /** The run's going on, the WAY in hand, the LIES, NEED and the DEALER. */
    private static void drawOut(NearLiars x, List<String> all) {
        for (int t = 1; t <= 8; t++) {
            all.add("ticks(1) " + x.ticks(1));
        }
        for (int n = 0; n < 6; n++) {
            all.add("walk(" + n + ") " + x.walk(n));
        }
        for (int v = 0; v < 4; v++) {
            all.add("tell(" + v + ") " + x.tell(v));
        }
        int last = x.many(8) - 1;
        for (int i = 0; i < 6; i++) {
            all.add("the last CLAIM, " + i + ", " + x.claim(last, 10 + i));
        }
        all.add("drop() " + x.drop());
        for (int n = 0; n < 6; n++) {
            all.add("lie(" + n + ", NONE) " + x.lie(n, NONE));
        }
        all.add("need(1) " + x.need(1));
        all.add("dealer(0, 0) " + x.dealer(0, 0));
        all.add("grid(3, 2, 1) " + x.grid(3, 2, 1));
    }

    // ---- numbers

    private static void constants() {
        DOC.of("Terms", "NONE is -9.");
        DOC.due("NONE", NearLiars.NONE, NONE);
        DOC.due("an answer, node(1, 1)", new NearLiars().node(1, 1), NONE);
        DOC.due("another number near it, lie(1, -8)", new NearLiars().lie(1, -8), OUTSIDE);
    }

    private static void bits() {
        DOC.of("Terms", "Sets of NODES are told as bits (bit k for NODE k).");
        NearLiars x = new NearLiars();
        x.net(12);
        x.dealer(5, 0);
        for (int k = 0; k < 12; k++) {
            if (k != 5) {
                x.edge(5, k, 1);
                DOC.due("neighbours(" + k + ")", x.neighbours(k), 32);
                DOC.due("neighbours(5)", x.neighbours(5), ((1 << k + 1) - 1) & ~32);
                DOC.due("reached(1 << " + k + ")", x.reached(1 << k), (((1 << k + 1) - 1) | 32) & ~(1 << k));
            }
        }
        DOC.due("the DEALER's bit, reached(32)", x.reached(32), OUTSIDE);
        // Bits of no NODE: among them those that a shift by 32 or more would wrap around to.
        for (int k = 12; k < 32; k++) {
            DOC.due("reached(1 << " + k + ")", x.reached(1 << k), OUTSIDE);
        }
        DOC.due("no NODE 32, neighbours(32)", x.neighbours(32), UNKNOWN);
        DOC.due("no NODE 37, walk(37)", x.walk(37), UNKNOWN);
        Nets.telling(x, 0, 5, 11);
        DOC.due("claim(0, 2)", x.claim(0, 2), 2048 + 32);
    }
}

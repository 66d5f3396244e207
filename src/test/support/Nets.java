/** Nets and ways that several tests use. */
final class Nets {
    private Nets() {
    }

    /** 0 - 1 - .. - n-1. */
    static NearLiars line(int n) {
        NearLiars x = new NearLiars();
        x.net(n);
        for (int i = 1; i < n; i++) {
            x.edge(i - 1, i, 1);
        }
        return x;
    }

    /** The DEALER 0 at one end, 1 2 3 beside one another (no NEIGHBOURS), 4 at the other end. */
    static NearLiars three() {
        NearLiars x = new NearLiars();
        x.net(5);
        for (int i = 1; i <= 3; i++) {
            x.edge(0, i, 1);
            x.edge(i, 4, 1);
        }
        return x;
    }

    /** Twelve, any two of which are NEIGHBOURS. */
    static NearLiars allNear() {
        NearLiars x = new NearLiars();
        x.grid(4, 3, 3);
        return x;
    }

    /** Of n NODES one, the centre, is a NEIGHBOUR of those from first to last, itself left out. */
    static NearLiars star(int n, int centre, int first, int last) {
        NearLiars x = new NearLiars();
        x.net(n);
        for (int i = first; i <= last; i++) {
            x.edge(centre, i, 1);
        }
        return x;
    }

    /** What the last step of a WAY was answered. */
    static int along(NearLiars x, int... way) {
        int last = 0;
        for (int n : way) {
            last = x.walk(n);
        }
        return last;
    }

    static int telling(NearLiars x, int v, int... way) {
        along(x, way);
        return x.tell(v);
    }
}

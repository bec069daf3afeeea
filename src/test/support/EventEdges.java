/** The boundaries of THE BAG at first and of EVENTS, and of promises 8 to 11. */
final class EventEdges {
    private static final int BAD = -2, NOT = -3, FULL = -4, NULL = -11;

    private EventEdges() {
    }

    static void all() {
        bagAtFirst();
        events();
        bag();
        event();
        back();
        read();
        readAsLongAs();
        readRefusals();
    }

    private static void bagAtFirst() {
        Edge.terms("THE BAG holds 1 to 99 at first (40, if nothing else is told)");
        BreathBand x = new BreathBand();
        Edge.is("nothing is told", 40, x.at(0, 1));
        for (int v = 1; v <= 99; v++) {
            x.bag(v);
            Edge.is("told " + v, v, x.at(0, 1));
        }
        Edge.terms(", in SEAT 0.");
        BreathBand first = Due.band("t0;t0;t0", "aa;ab;ac");
        Edge.is("of the one in seat 0", 2, first.heard(0));
        Edge.is("of the one in seat 1", 0, first.heard(1));
        Edge.is("of the one in the last seat", 0, first.heard(2));
    }

    /** One player alone, who loses 3 of 99 each beat, with such an event. */
    private static BreathBand alone(int kind, int beat) {
        BreathBand x = Due.band("h1", "");
        x.bag(99);
        x.event(kind, beat);
        return x;
    }

    private static void events() {
        Edge.terms("EVENTS, 8 at most (0 on)");
        BreathBand x = new BreathBand();
        x.bag(99);
        for (int e = 1; e <= 8; e++) {
            Edge.is("event " + e, e, x.event(0, 23));
            Edge.is("all are there", 99 - 3 * e, x.at(23, 1));
            Edge.is("as bits from 0 on", (1 << e) - 1, x.never());
        }
        Edge.is("a ninth", FULL, x.event(0, 23));
        Edge.is("not there", 99 - 24, x.at(23, 1));
        Edge.terms(": a kind, a BEAT: 0 a THEFT, 1 a FROST, 2 it is KEPT.");
        int[] behind = {93, 93, 99};
        int[] left = {24, 24, 30};
        for (int kind = 0; kind < 3; kind++) {
            Edge.is("kind " + kind + " on the first beat", behind[kind], alone(kind, 0).at(0, 1));
            Edge.is("kind " + kind + " on the last beat: ahead", 30, alone(kind, 23).at(22, 1));
            Edge.is("kind " + kind + " on the last beat", left[kind], alone(kind, 23).at(23, 1));
        }
        Edge.is("a theft is no leak", 3, alone(0, 0).sum(2));
        Edge.is("a frost is no theft", 0, alone(1, 0).sum(2));
    }

    private static void bag() {
        Edge.of(8, "THE BAG holds so much at first: how much it was.");
        BreathBand x = new BreathBand();
        Edge.is("bag(1)", 40, x.bag(1));
        Edge.is("count(5)", 1, x.count(5));
        Edge.is("bag(99)", 1, x.bag(99));
        Edge.is("count(5)", 99, x.count(5));
        Edge.is("bag(99) again", 99, x.bag(99));
        Due.tell(x, 0, "t3");
        x.at(23, 1);
        Edge.is("at first, not what is left", 99, x.bag(98));
        Edge.of(8, "BAD.");
        for (int v : new int[] {0, 100, -1, Edge.FAR[0], Edge.FAR[1]}) {
            Edge.refused("bag(" + v + ")", BAD, Edge::busy, b -> b.bag(v));
        }
    }

    private static void event() {
        Edge.of(9, "An EVENT more: how many.");
        BreathBand x = Due.band("h1;h0", "");
        Edge.is("event(0, 0)", 1, x.event(0, 0));
        Edge.is("event(2, 23)", 2, x.event(2, 23));
        Edge.is("the same once more", 3, x.event(0, 0));
        Edge.is("count(4)", 3, x.count(4));
        Edge.of(9, "BAD;");
        int[][] bad = {{-1, 0}, {3, 0}, {0, -1}, {0, 24}, {2, 24}, {Edge.FAR[0], 0}, {Edge.FAR[1], 0},
            {0, Edge.FAR[0]}, {0, Edge.FAR[1]}};
        for (int[] r : bad) {
            Edge.refused("event(" + Due.row(r) + ")", BAD, Edge::busy, b -> b.event(r[0], r[1]));
            Edge.refused("full: event(" + Due.row(r) + ")", BAD, Edge::full, b -> b.event(r[0], r[1]));
        }
        Edge.of(9, "FULL.");
        Edge.refused("event(0, 0)", FULL, Edge::full, b -> b.event(0, 0));
        Edge.refused("event(2, 23)", FULL, Edge::full, b -> b.event(2, 23));
    }

    private static void back() {
        Edge.of(10, "The last EVENT is undone: how many are left.");
        BreathBand x = new BreathBand();
        x.bag(99);
        for (int e = 0; e < 8; e++) {
            x.event(0, e);
        }
        for (int left = 7; left >= 0; left--) {
            Edge.is("back()", left, x.back());
            Edge.is("the last is not there", 99 - 3 * left, x.at(left, 1));
            Edge.is("those ahead are", 3 * left, x.sum(2));
        }
        BreathBand full = new BreathBand();
        Edge.full(full);
        full.back();
        Edge.is("there is room for one again", 8, full.event(0, 0));
        Edge.is("and no more", FULL, full.event(0, 0));
        Edge.of(10, "NOT: there is none.");
        Edge.refused("back()", NOT, b -> Due.tell(b, 0, "t0"), b -> b.back());
        Edge.refused("behind the last: back()", NOT, b -> {
            b.event(0, 0);
            b.back();
        }, b -> b.back());
    }

    private static void read() {
        Edge.of(11, "EVENTS more, from a SHEET:");
        for (int s = 0; s < 4; s++) {
            for (int form = 0; form < 3; form++) {
                BreathBand x = new BreathBand();
                x.event(0, 1);
                Edge.row(x, s, form, 0, 3, 2, 23);
                Edge.is("read(" + s + ") of form " + form, 2, x.read(s));
                Edge.is("with the one told ahead", 3, x.count(4));
                Edge.is("a theft on beat 3", 37, x.at(2, 1));
                Edge.is("a theft on beat 3", 34, x.at(3, 1));
                Edge.is("the sheet stays", 23, x.get(s, form, 3));
            }
        }
        Edge.of(11, "its items, two for each, as many as are whole");
        for (int n = 0; n <= 17; n++) {
            BreathBand x = new BreathBand();
            x.sheet(0, 2, n);
            Edge.is(n + " items", Math.min(n / 2, 8), x.read(0));
            Edge.is(n + " items: count(4)", Math.min(n / 2, 8), x.count(4));
        }
    }

    private static void readAsLongAs() {
        Edge.of(11, ", as long as each may be");
        int[][] ill = {{3, 0}, {-1, 0}, {0, 24}, {0, -1}, {Edge.FAR[0], 0}, {0, Edge.FAR[1]}};
        for (int[] r : ill) {
            BreathBand x = new BreathBand();
            Edge.row(x, 0, 2, 0, 0, r[0], r[1], 0, 0);
            Edge.is("one, " + Due.row(r) + ", one more", 1, x.read(0));
            Edge.is("the theft ahead of it alone", 37, x.at(23, 1));
            Edge.row(x, 0, 2, r[0], r[1], 0, 0);
            Edge.is(Due.row(r) + " first", 0, x.read(0));
            Edge.is("count(4)", 1, x.count(4));
            Edge.is("that is no finding", 0, x.count(8));
        }
        BreathBand bytes = new BreathBand();
        Edge.row(bytes, 0, 0, 256, 256 + 23);
        Edge.is("what is left of 256 in a byte may be", 1, bytes.read(0));
        Edge.of(11, "and there is room: how many came.");
        for (int had = 0; had <= 8; had++) {
            BreathBand x = new BreathBand();
            for (int e = 0; e < had; e++) {
                x.event(1, 0);
            }
            x.sheet(0, 1, 60);
            Edge.is("had " + had + ": read(0)", 8 - had, x.read(0));
            Edge.is("had " + had + ": count(4)", 8, x.count(4));
            Edge.is("had " + had + ": stolen", 3 * (8 - had), x.sum(2));
        }
    }

    private static void readRefusals() {
        Edge.of(11, "BAD;");
        for (int s : new int[] {-1, 4, Edge.FAR[0], Edge.FAR[1]}) {
            Edge.refused("read(" + s + ")", BAD, Edge::busy, b -> b.read(s));
        }
        Edge.of(11, "NULL.");
        Edge.refused("read(3)", NULL, Edge::busy, b -> b.read(3));
        Edge.refused("full: read(0)", NULL, b -> {
            Edge.full(b);
            b.lose(0);
        }, b -> b.read(0));
    }
}

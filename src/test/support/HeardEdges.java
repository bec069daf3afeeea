/** The boundaries of HEARD, NEVER, WASTE, SORT and ASK: promises 23 to 27. */
final class HeardEdges {
    private static final int NONE = -1, BAD = -2, FULL = -4;

    private HeardEdges() {
    }

    static void all() {
        heard();
        notesThatAreNot();
        hear();
        forget();
        never();
        waste();
        sort();
        was();
        ask();
        askCalls();
    }

    private static BreathBand hearing(BreathBand x, int... heard) {
        for (int k = 0; k + 1 < heard.length; k += 2) {
            x.hear(heard[k], heard[k + 1]);
        }
        return x;
    }

    private static void heard() {
        Edge.terms("HEARD, 8 at most:");
        BreathBand x = Edge.band("h0", "aa", 40, 0, 5);
        for (int k = 1; k <= 7; k++) {
            Edge.is("hear(0, 2)", k, x.hear(0, 2));
        }
        Edge.is("all came out so", 1, x.never());
        Edge.is("the eighth", 8, x.hear(0, 0));
        Edge.is("the eighth counts", 0, x.never());
        Edge.is("a ninth", FULL, x.hear(0, 2));
        Edge.is("how many", 8, x.count(7));
        Edge.terms("was so (0 to 2).");
        int[][] ways = {{3, 0}, {9, 1}, {40, 2}};
        for (int[] way : ways) {
            for (int is = 0; is < 3; is++) {
                BreathBand one = hearing(Edge.band("t0", "aa", way[0], 1, 5), 0, is);
                Edge.is("the bag at " + way[0] + ", heard " + is, is == way[1] ? 1 : 0, one.never());
            }
        }
    }

    private static void notesThatAreNot() {
        Edge.terms("a NOTE (0 to 15; of one that there is not it never comes out so)");
        for (int is = 0; is < 3; is++) {
            BreathBand x = hearing(Edge.band("h0", "aa", 40, 0, 5), 1, is);
            Edge.is("no second note, " + is + ": never()", 0, x.never());
            Edge.is("no second note, " + is + ": was(0, 0)", 0, x.was(0, 0));
            Edge.is("no second note, " + is + ": was(0, 1)", 0, x.was(0, 1));
            Edge.is("no sixteenth note, " + is, 0, hearing(Edge.band("h0", "aa", 40, 0, 5), 15, is).never());
            Edge.is("no notes, " + is, 0, hearing(Edge.band("h0", "", 40, 0, 5), 0, is).never());
        }
        BreathBand x = hearing(Edge.band("h0", "aa", 40, 0, 5), 1, 0);
        Due.tell(x, 1, ";ak");
        Edge.is("it has come, and is missed", 1, x.never());
        x.undo(1);
        Edge.is("with a fault it is gone", 0, x.never());
        BreathBand last = hearing(Due.band(Edge.ELEVEN, Edge.SIXTEEN), 15, 0);
        last.event(1, 23);
        Edge.is("the sixteenth note is there", 1, last.never());
    }

    private static void hear() {
        Edge.of(23, "HEARD more: how many.");
        BreathBand x = new BreathBand();
        Edge.is("hear(0, 0), of no note", 1, x.hear(0, 0));
        Edge.is("hear(15, 2)", 2, x.hear(15, 2));
        Edge.is("hear(15, 2) again", 3, x.hear(15, 2));
        Edge.is("count(7)", 3, x.count(7));
        Edge.of(23, "BAD;");
        int[][] bad = {{-1, 0}, {16, 0}, {0, -1}, {0, 3}, {Edge.FAR[0], 0}, {Edge.FAR[1], 0}, {0, Edge.FAR[0]},
            {0, Edge.FAR[1]}};
        for (int[] r : bad) {
            Edge.refused("hear(" + Due.row(r) + ")", BAD, Edge::busy, b -> b.hear(r[0], r[1]));
            Edge.refused("full: hear(" + Due.row(r) + ")", BAD, Edge::full, b -> b.hear(r[0], r[1]));
        }
        Edge.of(23, "FULL.");
        Edge.refused("hear(0, 0)", FULL, Edge::full, b -> b.hear(0, 0));
        Edge.refused("hear(15, 2)", FULL, Edge::full, b -> b.hear(15, 2));
    }

    private static void forget() {
        Edge.of(24, "All that was HEARD is forgotten: how many.");
        BreathBand x = Edge.band("h0", "aa", 40, 0, 5);
        Edge.is("none", 0, x.forget());
        for (int k = 0; k < 8; k++) {
            x.hear(0, 0);
        }
        Edge.is("it never comes out so", 0, x.never());
        Edge.is("eight", 8, x.forget());
        Edge.is("count(7)", 0, x.count(7));
        Edge.is("all comes out so", 1, x.never());
        Edge.is("none again", 0, x.forget());
        Edge.is("there is room again", 1, x.hear(0, 2));
    }

    private static void never() {
        Edge.terms("NEVER: EVENTS each of which, had it alone not been, makes all that was HEARD come out so, as bits.");
        BreathBand x = Edge.band("t0", "aa", 6, 1, 1, 0, 0);
        Edge.is("nothing heard", 3, x.never());
        Edge.is("hummed: but for the theft", 2, hearing(x, 0, 1).never());
        Edge.is("all, not one of them", 0, hearing(x, 0, 0).never());
        Edge.is("alone, not both", 0, hearing(Edge.band("t0", "aa", 6, 0, 0, 0, 0), 0, 1).never());
        Edge.is("either", 3, hearing(Edge.band("t0", "aa", 9, 0, 0, 0, 0), 0, 1).never());
        Edge.is("as it is, but not without", 1, hearing(Edge.band("t0", "aa", 6, 2, 0, 0, 0), 0, 0).never());
        Edge.of(25, "NEVER, as bits.");
        Edge.is("no events", 0, Edge.band("h0", "aa", 40).never());
        Edge.is("no events, heard", 0, hearing(Edge.band("h0", "aa", 40), 0, 2).never());
        BreathBand eight = Edge.band("t0", "aa", 6, 1, 9, 1, 9, 1, 9, 1, 9, 1, 9, 1, 9, 1, 9, 0, 0);
        Edge.is("eight, nothing heard", 255, eight.never());
        Edge.is("the last of eight", 128, hearing(eight, 0, 1).never());
        eight.back();
        Edge.is("it is undone", 127, eight.never());
        Edge.is("no players", 1, hearing(Edge.band("", "aa", 6, 0, 0), 0, 0).never());
    }

    /** Behind the first note 12, less what the first lets go, less 1 by the second note. */
    private static BreathBand leaking(int lets) {
        return Edge.band("h" + lets + ";h0", "aa;bb", 13);
    }

    private static void waste() {
        Edge.terms("WASTE of a PLAYER: 0 to 3, how much one LETS go, in place of what is told, likewise, as bits.");
        for (int lets = 0; lets <= 3; lets++) {
            Edge.is("nothing heard", 15, leaking(lets).was(0, 0));
            Edge.is("played: 0 and 1", 3, hearing(leaking(lets), 1, 2).was(0, 0));
            Edge.is("hummed: 2 and 3", 12, hearing(leaking(lets), 1, 1).was(0, 0));
            Edge.is("missed: none", 0, hearing(leaking(lets), 1, 0).was(0, 0));
            Edge.is("played, of the other", lets < 2 ? 15 : 0, hearing(leaking(lets), 1, 2).was(1, 0));
            BreathBand little = hearing(leaking(lets), 1, 0);
            little.bag(5);
            Edge.is("missed: 3 alone", 8, little.was(0, 0));
            little.bag(2);
            Edge.is("missed: all", 15, little.was(0, 0));
            Edge.is("what is told stays", lets, little.player(0, 1));
        }
        BreathBand x = hearing(leaking(0), 1, 2);
        x.bag(12);
        Edge.is("played: 0 alone", 1, x.was(0, 0));
    }

    private static void sort() {
        Edge.terms("SORT of a PLAYER: 0 t, 1 h, 2 c, in place of one's own, likewise, as bits.");
        for (String own : new String[] {"t0", "h0", "c0"}) {
            Edge.is(own + ", nothing heard", 7, Edge.band(own, "aa", 3).was(0, 1));
            Edge.is(own + ", hummed with 3: h and c", 6, hearing(Edge.band(own, "aa", 3), 0, 1).was(0, 1));
            Edge.is(own + ", missed with 3: t", 1, hearing(Edge.band(own, "aa", 3), 0, 0).was(0, 1));
            Edge.is(own + ", hummed with 1: c", 4, hearing(Edge.band(own, "aa", 1), 0, 1).was(0, 1));
            Edge.is(own + ", played with 11: h and c", 6, hearing(Edge.band(own, "aa", 11), 0, 2).was(0, 1));
            Edge.is(own + ", a seat away: c", 4, hearing(Edge.band("h0;" + own, "ab", 40), 0, 2).was(1, 1));
            Edge.is(own + ", all", 7, hearing(Edge.band(own, "aa", 4), 0, 1).was(0, 1));
            Edge.is(own + ", none", 0, hearing(Edge.band(own, "aa", 40), 0, 1).was(0, 1));
        }
        BreathBand x = hearing(Edge.band("h0", "aa;aa", 5), 1, 1, 0, 1);
        Edge.is("both of two", 6, x.was(0, 1));
        Edge.is("what is told stays", 1, x.player(0, 0));
    }

    private static void was() {
        Edge.of(26, "WASTE (what = 0), SORT (1), as bits.");
        BreathBand x = Due.band(Edge.ELEVEN, "kk");
        x.bag(99);
        x.hear(0, 2);
        Edge.is("was(10, 0)", 15, x.was(10, 0));
        Edge.is("was(10, 1)", 7, x.was(10, 1));
        x.hear(0, 0);
        Edge.is("was(10, 0), never so", 0, x.was(10, 0));
        Edge.is("was(10, 1), never so", 0, x.was(10, 1));
        Edge.of(26, "BAD.");
        int[][] bad = {{-1, 0}, {3, 0}, {0, -1}, {0, 2}, {Edge.FAR[0], 0}, {Edge.FAR[1], 0}, {0, Edge.FAR[0]},
            {0, Edge.FAR[1]}};
        for (int[] r : bad) {
            Edge.refused("was(" + Due.row(r) + ")", BAD, Edge::busy, b -> b.was(r[0], r[1]));
        }
        Edge.refused("eleven: was(11, 0)", BAD, Edge::full, b -> b.was(11, 0));
        Edge.refused("none: was(0, 0)", BAD, b -> b.bag(3), b -> b.was(0, 0));
    }

    private static void ask() {
        Edge.terms("ASK of a PLAYER: the NOTE of which the greatest number of those of WASTE by which it is alike is least");
        Edge.is("two and two", 1, leaking(2).ask(0));
        String missed = "ab;".repeat(15);
        Edge.is("the last of sixteen", 15, Edge.band("h0;h0", missed + "bb", 13).ask(0));
        // of 0 to 3: PPPP, PPPH, PHHM, HHMM
        BreathBand x = Edge.band("h0", "aa;ca;ea;fa", 21);
        Edge.is("two alike, of three ways", 2, x.ask(0));
        x.hear(2, 1);
        Edge.is("of those left only: 1 and 2 are", 6, x.was(0, 0));
        Edge.is("of those left only", 3, x.ask(0));
        Edge.terms(", of like ones the least;");
        Edge.is("all alike", 0, leaking(2).ask(1));
        Edge.is("two and two, twice", 1, Edge.band("h0;h0", "aa;bb;bb", 13).ask(0));
        Edge.is("one is left", 0, hearing(Edge.band("h0;h0", "aa;bb", 12), 1, 2).ask(0));
        Edge.is("none is left", 0, hearing(leaking(2), 1, 2, 1, 0).ask(0));
    }

    private static void askCalls() {
        Edge.terms("NONE: there are no NOTES.");
        Edge.is("no notes", NONE, Edge.band("h0", "", 40).ask(0));
        Edge.is("a fault", NONE, Edge.band("h0", "aa;", 40).ask(0));
        Edge.is("no notes, heard", NONE, hearing(Edge.band("h0", "", 40), 0, 0).ask(0));
        Edge.of(27, "ASK; NONE.");
        BreathBand x = Due.band("h0;h0;h0;h0;h0;h0;h0;h0;h0;h0;h0", "aa;kk;la");
        x.bag(16);
        // the last one passes it round the corner: 15, 14, 12 less 0 to 3
        Edge.is("of the last of eleven", 2, x.ask(10));
        x.wipe(1);
        Edge.is("wiped", NONE, x.ask(10));
        Edge.of(27, "BAD.");
        for (int p : new int[] {-1, 3, Edge.FAR[0], Edge.FAR[1]}) {
            Edge.refused("ask(" + p + ")", BAD, Edge::busy, b -> b.ask(p));
        }
        Edge.refused("eleven: ask(11)", BAD, Edge::full, b -> b.ask(11));
        Edge.refused("neither players nor notes: ask(0)", BAD, b -> b.bag(3), b -> b.ask(0));
    }
}

/** The boundaries of promises 36 and 37: count, digest. */
final class CountEdges {
    private static final int BAD = -2;

    private CountEdges() {
    }

    static void all() {
        counts();
        findings();
        countRefusals();
        digests();
        digestsLeaveOut();
    }

    private static void isCounts(String name, BreathBand x, int... due) {
        for (int what = 0; what < due.length; what++) {
            Edge.is(name + ": count(" + what + ")", due[what], x.count(what));
        }
    }

    private static void counts() {
        Edge.of(36, "0 PLAYERS, 1 NOTES, 2, 3 bytes of texts, 4 EVENTS, "
            + "5 what THE BAG holds at first, 6 how many NOTES SOUND, 7 HEARD,");
        isCounts("new", new BreathBand(), 0, 0, 0, 0, 0, 40, 0, 0);
        BreathBand full = Due.band("c0;c0;c0;c0;c0;c0;c0;c0;c0;c0;c0", "aa;aa;aa;aa;aa;aa;aa;aa;aa;aa;aa;aa;aa;aa;aa;aa");
        full.bag(99);
        for (int k = 0; k < 8; k++) {
            full.event(2, 0);
            full.hear(15, 2);
        }
        isCounts("full", full, 11, 16, 32, 47, 8, 99, 16, 8);
        BreathBand faulty = Due.band("c0;", "aa;b");
        faulty.bag(1);
        isCounts("faulty", faulty, 0, 0, 3, 4, 0, 1, 0, 0);
        isCounts("one of three sounds", Due.band("c0;h0", "aa;ab;ak"), 2, 3, 5, 8, 0, 40, 1, 0);
    }

    private static void findings() {
        Edge.of(36, "8 the number of the latest FINDING (0 before any).");
        BreathBand x = new BreathBand();
        Edge.is("before any", 0, x.count(8));
        x.lose(4);
        x.back();
        x.undo(0);
        Edge.is("BAD and NOT are none", 0, x.count(8));
        x.lose(0);
        Edge.is("NULL", 1, x.count(8));
        x.sheet(0, 0, 1);
        x.sheet(1, 1, 1);
        Edge.is("it stays", 1, x.count(8));
        x.lay(0, 0, 1, 0);
        Edge.is("INDEX", 2, x.count(8));
        x.lay(0, 1, 0, 0);
        Edge.is("CAST", 3, x.count(8));
        x.copy(0, 0, 1, 0, 0);
        Edge.is("STORE", 4, x.count(8));
        x.sheet(0, 0, -1);
        Edge.is("SIZE", 5, x.count(8));
        x.read(3);
        Edge.is("NULL, of a read", 1, x.count(8));
        x.get(0, 0, -1);
        Edge.is("INDEX, of a get", 2, x.count(8));
        x.write(2);
        Edge.is("NULL, of a write", 1, x.count(8));
        x.digest();
        Edge.is("it stays", 1, x.count(8));
    }

    private static void countRefusals() {
        Edge.of(36, "BAD.");
        for (int what : new int[] {-1, 9, Edge.FAR[0], Edge.FAR[1]}) {
            Edge.refused("count(" + what + ")", BAD, Edge::busy, b -> b.count(what));
        }
    }

    /** The digest by the band's own answers, in the document's order. */
    private static long ownDigest(BreathBand x) {
        long h = 17;
        for (int what = 0; what <= 7; what++) {
            h = 31 * h + x.count(what);
        }
        h = 31 * h + x.fault(0);
        h = 31 * h + x.fault(1);
        for (int beat = 0; beat < 24; beat++) {
            for (int what = 0; what <= 2; what++) {
                h = 31 * h + x.at(beat, what);
            }
        }
        return ownEnd(x, ownPlayers(x, ownNotes(x, h)));
    }

    private static long ownNotes(BreathBand x, long start) {
        long h = start;
        for (int i = 0; i < 16; i++) {
            h = 31 * h + x.note(i, 0);
            h = 31 * h + x.note(i, 1);
        }
        for (int i = 0; i < x.count(1); i++) {
            h = 31 * h + x.heard(i);
            h = 31 * h + x.chance(5, i, 0);
            h = 31 * h + x.chance(5, i, 1);
        }
        return h;
    }

    private static long ownPlayers(BreathBand x, long start) {
        long h = start;
        for (int p = 0; p < x.count(0); p++) {
            long[] of = {x.player(p, 0), x.player(p, 1), x.takes(p, 0), x.takes(p, 1), x.takes(p, 2), x.was(p, 0),
                x.was(p, 1), x.ask(p)};
            for (long v : of) {
                h = 31 * h + v;
            }
        }
        return h;
    }

    private static long ownEnd(BreathBand x, long start) {
        long h = start;
        long[] end = {x.sum(0), x.sum(1), x.sum(2), x.flat(), x.silent(), x.greedy(), x.fill(0), x.fill(1), x.swap(0),
            x.swap(1), x.swap(2), x.hold(0), x.hold(1), x.spare(-1), x.spare(0), x.never(), x.years(7, 12, 0),
            x.years(7, 12, 1)};
        for (long v : end) {
            h = 31 * h + v;
        }
        return h;
    }

    private static void isOwn(String name, BreathBand x) {
        Edge.is(name, ownDigest(x), x.digest());
    }

    private static void digests() {
        Edge.of(37, "h is 17; h becomes 31 h and each of (of each thing all that is told of it, then of the next one): "
            + "count() 0 to 7; of texts fault(); of BEATS 0 to 23 at(it, 0 to 2); of NOTES 0 to 15 note() 0, 1; "
            + "of those that there are heard(), chance(5, it), above, below; "
            + "of PLAYERS player() 0, 1, takes() 0 to 2, was() 0, 1, ask(); sum() 0 to 2, flat(), silent(), greedy(), fill() 0, 1, "
            + "swap() 0 to 2, hold() 0, 1, spare(NONE), spare(0), never(), years(7, 12, 0 and 1);");
        isOwn("new", new BreathBand());
        isOwn("players alone", Due.band("t1;h2;c3", ""));
        isOwn("one player", Due.band("c0", "aa;ba"));
        isOwn("notes alone", Due.band("", "aa;bb;ck"));
        isOwn("faults", Due.band("t1;", "aa;b"));
        BreathBand robbed = Due.band("t0", "aa");
        robbed.bag(6);
        robbed.event(0, 0);
        robbed.event(0, 0);
        Edge.is("two to spare", 1, robbed.spare(1));
        isOwn("two to spare", robbed);
        BreathBand cornet = Due.band("c0", "aa");
        cornet.bag(99);
        Edge.is("a cornet alone plays all twelve", 12, cornet.years(7, 12, 0));
        isOwn("a cornet alone", cornet);
        cornet.bag(30);
        Edge.isTrue("another seed, another number", cornet.years(7, 12, 0) != cornet.years(6, 12, 0));
        isOwn("a cornet with less", cornet);
        BreathBand two = Due.band("c0;c0;h0", "");
        two.bag(99);
        Edge.isTrue("another seed, more or less left", two.years(7, 12, 1) != two.years(6, 12, 1));
        isOwn("where more or less is left", two);
        BreathBand busy = new BreathBand();
        Edge.busy(busy);
        isOwn("busy", busy);
        Edge.of(37, "as longs that wrap.");
        BreathBand full = new BreathBand();
        Edge.full(full);
        long digest = ownDigest(full);
        // 31 to the power of some 300 has long wrapped
        Edge.is("full", digest, full.digest());
        Edge.is("full, again", digest, full.digest());
    }

    private static void digestsLeaveOut() {
        BreathBand x = new BreathBand();
        BreathBand twin = new BreathBand();
        Edge.busy(x);
        Edge.busy(twin);
        x.lose(0);
        x.lose(0);
        x.sheet(3, 2, 9);
        Edge.is("sheets and findings are not in it", twin.digest(), x.digest());
        Edge.is("it changes nothing: count(8)", 1, x.count(8));
        Edge.is("it changes nothing: sheets", 0, x.get(3, 2, 8));
        Edge.sameAnswers("it changes nothing", afterFinding(), afterDigest());
    }

    private static BreathBand afterFinding() {
        BreathBand x = new BreathBand();
        Edge.busy(x);
        x.lose(3);
        return x;
    }

    private static BreathBand afterDigest() {
        BreathBand x = afterFinding();
        x.digest();
        return x;
    }
}

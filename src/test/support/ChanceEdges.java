/** The boundaries of FRACTIONS, LOTS, CHANCE and YEARS: promises 28 and 29. */
final class ChanceEdges {
    private static final int BAD = -2;
    private static final long BAD_LONG = Long.MIN_VALUE + 2;

    private ChanceEdges() {
    }

    static void all() {
        fractions();
        chance();
        chanceCalls();
        lots();
        upperBits();
        years();
        yearCalls();
    }

    private static void isChance(String what, int c, int i, long above, long below, BreathBand x) {
        Edge.is(what + ": chance(" + c + ", " + i + ", 0)", above, x.chance(c, i, 0));
        Edge.is(what + ": chance(" + c + ", " + i + ", 1)", below, x.chance(c, i, 1));
    }

    /** The first of eleven sounds on the beat behind so many that it is kept on, if it is kept on all. */
    private static BreathBand kept(int times) {
        BreathBand x = Due.band("h0;h0;h0;h0;h0;h0;h0;h0;h0;h0;h0", (char) ('a' + times) + "a;ak");
        for (int beat = 0; beat < times; beat++) {
            x.event(2, beat);
        }
        return x;
    }

    private static void fractions() {
        Edge.terms("FRACTIONS are told in lowest terms, above and below");
        int[][] due = {{1, 1, 16}, {2, 1, 8}, {3, 3, 16}, {4, 1, 4}, {6, 3, 8}, {8, 1, 2}, {12, 3, 4}, {15, 15, 16},
            {16, 1, 1}};
        for (int[] r : due) {
            isChance("kept once", r[0], 0, r[1], r[2], kept(1));
        }
        isChance("kept eight times", 2, 0, 1, 1 << 24, kept(8));
        isChance("kept eight times", 8, 0, 1, 256, kept(8));
        isChance("no events", 5, 0, 1, 1, kept(0));
        Edge.terms("(0 by 1)");
        isChance("kept once", 0, 0, 0, 1, kept(1));
        isChance("kept eight times", 0, 0, 0, 1, kept(8));
        isChance("never in the right seat", 5, 1, 0, 1, kept(8));
        isChance("no events", 5, 1, 0, 1, kept(0));
    }

    private static void chance() {
        Edge.terms("CHANCE: each of EVENTS is by c sixteenths (0 to 16), by itself: the chance that a NOTE SOUNDS: a FRACTION.");
        isChance("all of eight, as seldom as may be", 1, 0, 1, 4294967296L, kept(8));
        isChance("all of eight, as often as may be", 15, 0, 2562890625L, 4294967296L, kept(8));
        isChance("all of eight, always", 16, 0, 1, 1, kept(8));
        isChance("two, each by itself", 5, 0, 25, 256, kept(2));
        BreathBand none = Due.band("t0", "aa");
        none.bag(6);
        for (int e = 0; e < 8; e++) {
            none.event(0, 0);
        }
        isChance("none of eight", 0, 0, 1, 1, none);
        isChance("none of eight", 1, 0, 2562890625L, 4294967296L, none);
        isChance("none of eight", 15, 0, 1, 4294967296L, none);
        isChance("none of eight", 16, 0, 0, 1, none);
        none.bag(9);
        // none of eight, or one: 8 ways
        isChance("one of eight at most", 8, 0, 9, 256, none);
        BreathBand hummed = Due.band("c0", "aa");
        hummed.bag(4);
        hummed.event(0, 0);
        isChance("a hum sounds", 5, 0, 1, 1, hummed);
        BreathBand nobody = Due.band("h0", "ab");
        nobody.event(0, 0);
        isChance("of nobody", 5, 0, 0, 1, nobody);
    }

    private static void chanceCalls() {
        Edge.of(28, "CHANCE: above, below.");
        BreathBand x = Due.band(Edge.ELEVEN, Edge.SIXTEEN);
        isChance("the first of sixteen", 5, 0, 1, 1, x);
        isChance("the last of sixteen", 5, 15, 0, 1, x);
        x.event(2, 0);
        x.event(2, 0);
        // the second sounds unless it is kept on the first beat
        isChance("kept twice on a beat", 4, 1, 9, 16, x);
        Edge.is("events stay", 2, x.count(4));
        x.back();
        isChance("kept once on a beat", 4, 1, 3, 4, x);
        Edge.of(28, "BAD (the least long and 2 more).");
        int[][] bad = {{-1, 0, 0}, {17, 0, 0}, {0, -1, 0}, {0, 6, 0}, {0, 15, 0}, {0, 16, 0}, {0, 0, -1}, {0, 0, 2},
            {Edge.FAR[0], 0, 0}, {Edge.FAR[1], 0, 0}, {0, Edge.FAR[0], 0}, {0, Edge.FAR[1], 0}, {0, 0, Edge.FAR[0]},
            {0, 0, Edge.FAR[1]}};
        for (int[] r : bad) {
            Edge.refused("chance(" + Due.row(r) + ")", BAD_LONG, Edge::busy, b -> b.chance(r[0], r[1], r[2]));
        }
        Edge.refused("sixteen: chance(0, 16, 0)", BAD_LONG, Edge::full, b -> b.chance(0, 16, 0));
        Edge.refused("no notes: chance(0, 0, 0)", BAD_LONG, b -> b.bag(3), b -> b.chance(0, 0, 0));
    }

    private static void isYears(String what, int seed, int n, int sounds, int left, BreathBand x) {
        Edge.is(what + ": years(" + seed + ", " + n + ", 0)", sounds, x.years(seed, n, 0));
        Edge.is(what + ": years(" + seed + ", " + n + ", 1)", left, x.years(seed, n, 1));
    }

    /** The notes of years, drawn with numbers that have room for all, and told to a band as a text. */
    private static BreathBand drawn(String players, int seed, int n, int bag) {
        long s = seed;
        int many = (players.length() + 1) / 3;
        StringBuilder notes = new StringBuilder();
        for (int i = 0; i < n; i++) {
            s = 1103515245L * s + 12345 & 0xffffffffL;
            notes.append(i == 0 ? "" : ";").append((char) ('a' + (s >> 16) % 24));
            s = 1103515245L * s + 12345 & 0xffffffffL;
            notes.append((char) ('a' + (s >> 16) % many));
        }
        BreathBand x = Due.band(players, notes.toString());
        x.bag(bag);
        return x;
    }

    private static void likeDrawn(String players, int seed, int n) {
        BreathBand told = drawn(players, seed, n, 99);
        BreathBand x = Due.band(players, "aa");
        x.bag(99);
        isYears(players, seed, n, told.sum(0), told.at(23, 1), x);
    }

    private static void lots() {
        Edge.terms("LOTS of m: SEED becomes 1103515245 SEED and 12345, as ints that wrap;");
        int[] seeds = {0, 1, -1, 2, 3, 7, Integer.MAX_VALUE, Integer.MIN_VALUE, 1 << 16, 0xffff, 0x7fff0000};
        for (int seed : seeds) {
            for (String players : new String[] {"c0", "c0;c1", "c0;h1;c0", "c0;c0;c0;c0;c0;c0;c0", Edge.ELEVEN}) {
                likeDrawn(players, seed, 16);
            }
        }
    }

    private static void upperBits() {
        Edge.terms("its upper 16 bits as a number from 0 on, modulo m.");
        // 65535 modulo 24 is 15: a horn alone, from whom 2 go on each beat, has just the 2 that it needs on it
        BreathBand alone = Due.band("h0", "");
        alone.bag(32);
        Edge.is("beat 15, breath enough", 1, alone.years(seedAheadOf(-65536), 1, 0));
        alone.bag(31);
        Edge.is("beat 15, one too little", 0, alone.years(seedAheadOf(-65536), 1, 0));
        // 65535 modulo 11 is 8: on beat 8 the bag is in seat 8
        int low = 0;
        while ((seedAheadOf(-65536 + low) >>> 16) % 24 != 8) {
            low++;
        }
        int seed = seedAheadOf(seedAheadOf(-65536 + low));
        Edge.is("beat 8, player 8", 1, Due.band("h0;h0;h0;h0;h0;h0;h0;h0;h0;h0;h0", "").years(seed, 1, 0));
        for (int k = 0; k < 40; k++) {
            likeDrawn("h0;c0;t0", seedAheadOf(Integer.MIN_VALUE + k * 65536), 1);
            likeDrawn("h0;c0;t0", seedAheadOf(-1 - k * 65536), 1);
        }
    }

    /** The seed that becomes this one: the factor is odd, so there is just one. */
    private static int seedAheadOf(int seed) {
        int inverse = 1;
        for (int i = 0; i < 5; i++) {
            inverse *= 2 - 1103515245 * inverse;
        }
        // 1 is right in one bit, and each step makes twice as many right
        return (seed - 12345) * inverse;
    }

    private static void years() {
        Edge.terms("YEARS by a SEED: n NOTES (0 to 16), in place of those told (none where there are no PLAYERS):");
        BreathBand x = Due.band("c0", "aa;aa;aa");
        x.bag(99);
        for (int n = 0; n <= 16; n++) {
            isYears("a cornet alone", 5, n, n, 99 - 48 - n, x);
        }
        Edge.is("those told stay: sum(0)", 3, x.sum(0));
        BreathBand none = Due.band("", "aa");
        isYears("no players", 5, 16, 0, 40, none);
        none.event(0, 3);
        isYears("no players, a theft", 5, 16, 0, 37, none);
        isYears("a fault in players", 5, 16, 0, 40, Due.band("c0;", "aa"));
        BreathBand fault = Due.band("c0", "aa;");
        isYears("a fault in notes", 5, 1, 1, 0, fault);
        Edge.terms("of each a LOT of 24 (its BEAT), a LOT of PLAYERS: how many SOUND; what THE BAG holds behind BEAT 23.");
        for (int n = 0; n <= 16; n++) {
            likeDrawn("c0;h1;t0;c2", 31 * n, n);
            likeDrawn(Edge.ELEVEN, -77 * n, n);
        }
    }

    private static void yearCalls() {
        Edge.of(29, "YEARS: how many SOUND (what = 0), what is left (1).");
        BreathBand x = Due.band("c0", "");
        x.bag(99);
        x.event(0, 0);
        x.event(2, 23);
        isYears("with events", 7, 12, 12, 99 - 3 - 46 - 12, x);
        x.bag(1);
        isYears("the theft comes first", 7, 12, 0, 0, x);
        Edge.of(29, "BAD.");
        int[][] bad = {{7, -1, 0}, {7, 17, 0}, {7, 0, -1}, {7, 0, 2}, {7, Edge.FAR[0], 0}, {7, Edge.FAR[1], 0},
            {7, 0, Edge.FAR[0]}, {7, 0, Edge.FAR[1]}};
        for (int[] r : bad) {
            Edge.refused("years(" + Due.row(r) + ")", BAD, Edge::busy, b -> b.years(r[0], r[1], r[2]));
            Edge.refused("none: years(" + Due.row(r) + ")", BAD, b -> b.bag(3), b -> b.years(r[0], r[1], r[2]));
        }
        for (int seed : Edge.FAR) {
            Edge.is("any seed: " + seed, 0, x.years(seed, 0, 0));
        }
    }
}

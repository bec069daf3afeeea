/** Promises 28 and 29: chance, years. */
public final class ChanceTests {
    public static void main(String[] args) {
        chanceRefusals();
        chances();
        longChances();
        chancesLaterTold();
        yearRefusals();
        yearsThatAllSound();
        yearsByLots();
        Due.end();
    }

    private static void dueChance(String what, int c, int i, long above, long below, BreathBand x) {
        Due.due(what + ": chance(" + c + ", " + i + ", 0)", above, x.chance(c, i, 0));
        Due.due(what + ": chance(" + c + ", " + i + ", 1)", below, x.chance(c, i, 1));
    }

    private static void chanceRefusals() {
        long bad = Long.MIN_VALUE + 2;
        BreathBand x = Due.band("h0", "aa;ab");
        int[][] rows = {{-1, 0, 0}, {17, 0, 0}, {0, -1, 0}, {0, 2, 0}, {0, 15, 0}, {0, 0, -1}, {0, 0, 2}};
        for (int[] row : rows) {
            Due.due("chance(" + Due.row(row) + ")", bad, x.chance(row[0], row[1], row[2]));
        }
    }

    private static BreathBand robbed(int bag, int thefts) {
        BreathBand x = Due.band("t0", "aa;ab");
        x.bag(bag);
        for (int e = 0; e < thefts; e++) {
            x.event(0, 0);
        }
        return x;
    }

    private static void chances() {
        dueChance("no events", 5, 0, 1, 1, robbed(4, 0));
        dueChance("no events", 5, 0, 0, 1, robbed(3, 0));
        BreathBand one = robbed(6, 1);
        dueChance("a theft", 0, 0, 1, 1, one);
        dueChance("a theft", 1, 0, 15, 16, one);
        dueChance("a theft", 4, 0, 3, 4, one);
        dueChance("a theft", 16, 0, 0, 1, one);
        dueChance("of nobody", 4, 1, 0, 1, one);
        BreathBand two = robbed(7, 2);
        dueChance("two thefts", 5, 0, 231, 256, two);
        dueChance("two thefts", 8, 0, 3, 4, two);
        dueChance("two thefts", 16, 0, 0, 1, two);
        BreathBand kept = Due.band("h0;h0", "ba;bb");
        kept.event(2, 0);
        dueChance("kept", 5, 0, 5, 16, kept);
        dueChance("not kept", 5, 1, 11, 16, kept);
        BreathBand rows = Due.band("h0;h0", "cb");
        rows.event(2, 0);
        rows.event(2, 1);
        dueChance("kept once of two", 4, 0, 3, 8, rows);
    }

    private static void longChances() {
        BreathBand x = robbed(27, 8);
        dueChance("eight thefts", 5, 0, 4294576671L, 4294967296L, x);
        dueChance("eight thefts", 8, 0, 255, 256, x);
        dueChance("eight thefts", 0, 0, 1, 1, x);
        BreathBand all = robbed(6, 8);
        dueChance("none of eight", 1, 0, 2562890625L, 4294967296L, all);
        dueChance("none of eight", 15, 0, 1, 4294967296L, all);
    }

    private static void chancesLaterTold() {
        BreathBand x = robbed(6, 1);
        dueChance("at first", 4, 0, 3, 4, x);
        x.bag(7);
        dueChance("with more", 4, 0, 1, 1, x);
        x.event(0, 0);
        dueChance("with a theft more", 4, 0, 15, 16, x);
        x.back();
        x.back();
        x.bag(3);
        dueChance("with less", 4, 0, 0, 1, x);
        x.undo(0);
        Due.tell(x, 0, "0;h0");
        x.bag(40);
        dueChance("of nobody, who has come", 4, 1, 0, 1, x);
        Due.due("what is told stays: heard(0)", 2, x.heard(0));
    }

    private static void dueYears(String what, int seed, int n, int sounds, int left, BreathBand x) {
        Due.due(what + ": years(" + seed + ", " + n + ", 0)", sounds, x.years(seed, n, 0));
        Due.due(what + ": years(" + seed + ", " + n + ", 1)", left, x.years(seed, n, 1));
    }

    private static void yearRefusals() {
        BreathBand x = Due.band("h0", "aa");
        Due.due("years(0, -1, 0)", BreathBand.BAD, x.years(0, -1, 0));
        Due.due("years(0, 17, 0)", BreathBand.BAD, x.years(0, 17, 0));
        Due.due("years(0, 0, -1)", BreathBand.BAD, x.years(0, 0, -1));
        Due.due("years(0, 0, 2)", BreathBand.BAD, x.years(0, 0, 2));
    }

    private static void yearsThatAllSound() {
        int[] seeds = {0, 1, -1, 7, Integer.MIN_VALUE, Integer.MAX_VALUE};
        for (int seed : seeds) {
            BreathBand x = Due.band("c0", "aa;aa;aa");
            x.bag(99);
            dueYears("a cornet alone", seed, 16, 16, 99 - 48 - 16, x);
            dueYears("in place of those told", seed, 0, 0, 99 - 48, x);
            x.event(0, 4);
            dueYears("with a theft", seed, 16, 16, 99 - 48 - 16 - 3, x);
            Due.due("those told stay: sum(0)", 3, x.sum(0));
            Due.due("those told stay: note(0, 0)", 0, x.note(0, 0));
            dueYears("no players", seed, 16, 0, 40, Due.band("", "aa"));
        }
    }

    /** What years(seed, n) tells must be what a band tells to whom the notes drawn here were told. */
    private static void yearsByLots() {
        String[] rows = {"t0;h1", "c0;h2;t1", "c0;c1;c2;c3;h0;h1;t0", "t0;h0;c0;t1;h1;c1;t2;h2;c2;t3;h3"};
        for (String row : rows) {
            int players = (row.length() + 1) / 3;
            for (int seed = -3; seed < 40; seed++) {
                int n = Math.floorMod(seed, 17);
                BreathBand drawn = Due.band(row, drawn(seed * 77777777, n, players));
                dueYears(row, seed * 77777777, n, drawn.sum(0), drawn.at(23, 1), Due.band(row, "aa"));
            }
        }
    }

    private static String drawn(int seed, int n, int players) {
        long s = Integer.toUnsignedLong(seed);
        StringBuilder b = new StringBuilder();
        for (int i = 0; i < n; i++) {
            b.append(i == 0 ? "" : ";");
            s = (s * 1103515245L + 12345L) % 4294967296L;
            b.append((char) ('a' + s / 65536 % 24));
            s = (s * 1103515245L + 12345L) % 4294967296L;
            b.append((char) ('a' + s / 65536 % players));
        }
        return b.toString();
    }
}

/** The boundaries of what comes on a BEAT, and of promises 12 to 18. */
final class BeatEdges {
    private static final int NONE = -1, BAD = -2;
    private static final String[] ALONE = {"t0", "h0", "c0"};
    private static final String[] SORTS = {"a tuba", "a horn", "a cornet"};

    private BeatEdges() {
    }

    static void all() {
        beats();
        thefts();
        notesAsTold();
        seats();
        cornets();
        needs();
        hums();
        keeping();
        passing();
        corner();
        frosts();
        emptyBags();
        oneAndNone();
        at();
        heard();
        takes();
        takesOfEach();
        sum();
        flat();
        silent();
        greedy();
    }

    private static void beats() {
        Edge.terms("BEATS are 0 to 23.");
        BreathBand x = Edge.band("h0;h0", "aa;xb", 40);
        Edge.is("a note on the first beat", 2, x.heard(0));
        Edge.is("a note on the last beat", 2, x.heard(1));
        Edge.is("at(-1, 0)", BAD, x.at(-1, 0));
        Edge.is("at(0, 0)", 1, x.at(0, 0));
        Edge.is("at(23, 0)", 0, x.at(23, 0));
        Edge.is("at(24, 0)", BAD, x.at(24, 0));
    }

    private static void thefts() {
        Edge.terms("On a BEAT first by each THEFT of it THE BAG holds 3 less");
        Edge.is("ahead of its notes: 7, a tuba", 1, Edge.band("t0", "aa", 7, 0, 0).heard(0));
        Edge.is("ahead of its notes: 6, a tuba", 0, Edge.band("t0", "aa", 6, 0, 0).heard(0));
        Edge.is("not on the beat ahead", 40, Edge.band("", "", 40, 0, 5).at(4, 1));
        Edge.is("on its beat", 37, Edge.band("", "", 40, 0, 5).at(5, 1));
        Edge.is("not on the beat behind", 37, Edge.band("", "", 40, 0, 5).at(6, 1));
        Edge.is("two on a beat", 34, Edge.band("", "", 40, 0, 5, 0, 5).at(5, 1));
        Edge.is("eight on a beat", 1, Edge.band("", "", 25, 0, 0, 0, 0, 0, 0, 0, 0, 0, 0, 0, 0, 0, 0, 0, 0).at(0, 1));
        Edge.is("where it is kept, too", 37, Edge.band("h1;h0", "", 40, 0, 0, 2, 0).at(0, 1));
        Edge.terms("THE BAG holds 3 less, 0 at least.");
        int[] left = {0, 0, 0, 0, 1, 2};
        for (int v = 1; v <= 5; v++) {
            Edge.is("one theft of " + v, left[v], Edge.band("", "", v, 0, 0).at(0, 1));
            Edge.is("one theft of " + v + ": what went", v - left[v], Edge.band("", "", v, 0, 0).sum(2));
            Edge.is("two thefts of " + v, 0, Edge.band("", "", v, 0, 0, 0, 0).at(0, 1));
            Edge.is("two thefts of " + v + ": what went", v, Edge.band("", "", v, 0, 0, 0, 0).sum(2));
            Edge.is("thefts of " + v + " later on", 0, Edge.band("", "", v, 0, 0, 0, 9).at(9, 1));
        }
    }

    private static void notesAsTold() {
        Edge.terms("Then come its NOTES, as told");
        Edge.is("the tuba, then the cornet: both", 2, Edge.band("t0;c0", "aa;ab", 4).sum(0));
        Edge.is("the cornet, then the tuba: one", 1, Edge.band("t0;c0", "ab;aa", 4).sum(0));
        Edge.is("the last told first by its beat", 3, Edge.band("h0;h0", "ca;bb;aa", 7).sum(0));
        Edge.is("on one beat sixteen", 16, Edge.band("c0", Edge.times("aa", 16), 16).sum(0));
        Edge.is("on one beat, breath for fifteen", 0, Edge.band("c0", Edge.times("aa", 16), 15).heard(15));
        Edge.terms(", of PLAYERS that are there:");
        BreathBand two = Edge.band("h0;h0", "ac;ak;bb", 40);
        Edge.is("of a third", 0, two.heard(0));
        Edge.is("of an eleventh", 0, two.heard(1));
        Edge.is("nothing is taken", 40, two.at(0, 1));
        Edge.is("the last of two", 2, two.heard(2));
        Edge.is("of the eleventh of ten", 0, Edge.band(Edge.times("h0", 10), "kk", 40).sum(0));
        Edge.is("of the eleventh of eleven", 1, Edge.band(Edge.times("h0", 11), "kk", 40).sum(0));
        Edge.is("of a cornet's neighbour who is not there", 0, Edge.band("c0", "ab", 40).sum(0));
    }

    private static void seats() {
        Edge.terms("one SOUNDS, if THE BAG is in the SEAT of its PLAYER");
        for (int sort = 0; sort < 2; sort++) {
            // the bag is in seats 0 to 3 on beats a to d
            BreathBand x = Edge.band(Edge.times(ALONE[sort], 4), "ab;bb;cb;db;aa;ba;da;ea", 99);
            int[] sounds = {0, 1, 0, 0, 1, 0, 0, 1};
            for (int i = 0; i < sounds.length; i++) {
                Edge.is(SORTS[sort] + ", note " + i, sounds[i], Math.min(1, x.heard(i)));
            }
        }
    }

    private static void cornets() {
        Edge.terms(", of a cornet also in the SEAT one less or one more");
        BreathBand x = Edge.band("h0;h0;c0;h0;h0", "ac;bc;cc;dc;ec", 99);
        int[] sounds = {0, 1, 1, 1, 0};
        for (int i = 0; i < sounds.length; i++) {
            Edge.is("the bag in seat " + i + ", the cornet in 2", sounds[i], Math.min(1, x.heard(i)));
        }
        Edge.is("a horn beside a cornet", 0, Edge.band("c0;h0", "ab", 99).sum(0));
        Edge.terms("(not round the CORNER)");
        for (int players = 3; players <= 11; players++) {
            char last = (char) ('a' + players - 1);
            BreathBand ends = Edge.band(Edge.times("c0", players), "a" + last + ";" + last + "a", 99);
            Edge.is(players + " players, the bag in seat 0, the cornet in the last", 0, ends.heard(0));
            Edge.is(players + " players, the bag in the last, the cornet in seat 0", 0, ends.heard(1));
        }
        Edge.is("of two each is beside the other", 2, Edge.band("c0;c0", "ab;ba", 99).sum(0));
    }

    private static void needs() {
        int[] need = {4, 2, 1};
        int[] back = {2, 1, 0};
        Edge.terms(", and holds as much as it needs: of a tuba 4, of a horn 2, of a cornet 1;");
        for (int sort = 0; sort < 3; sort++) {
            Edge.is(SORTS[sort] + ", as much", 1, Edge.band(ALONE[sort], "aa", need[sort]).heard(0));
            // a theft, so that the bag may hold nothing
            BreathBand less = Edge.band(ALONE[sort], "aa", need[sort] + 2, 0, 0);
            Edge.is(SORTS[sort] + ", one less", 0, less.heard(0));
            Edge.is(SORTS[sort] + ", one less: nothing is taken", 0, less.takes(0, 1));
        }
        Edge.terms("it holds so much less then, but half of that comes back, cut.");
        for (int sort = 0; sort < 3; sort++) {
            BreathBand x = Edge.band(ALONE[sort], "aa", need[sort], 2, 0);
            Edge.is(SORTS[sort] + ": what is left of " + need[sort], back[sort], x.at(0, 1));
            BreathBand more = Edge.band(ALONE[sort], "aa;aa", 99, 2, 0);
            Edge.is(SORTS[sort] + " twice: left of 99", 99 - 2 * (need[sort] - back[sort]), more.at(0, 1));
        }
        Edge.is("what came back serves the next: a tuba twice with 6", 2, Edge.band("t0", "aa;aa", 6).sum(0));
        Edge.is("a tuba twice with 5", 1, Edge.band("t0", "aa;aa", 5).sum(0));
    }

    private static void hums() {
        int[] takes = {2, 1, 1};
        Edge.terms("A NOTE that SOUNDS is HUMMED, if THE BAG holds less than 10 behind it, else PLAYED;");
        for (int sort = 0; sort < 3; sort++) {
            Edge.is(SORTS[sort] + ", 10 behind it", 2, Edge.band(ALONE[sort], "aa", 10 + takes[sort]).heard(0));
            Edge.is(SORTS[sort] + ", 9 behind it", 1, Edge.band(ALONE[sort], "aa", 9 + takes[sort]).heard(0));
        }
        Edge.is("nothing behind it", 1, Edge.band("c0", "aa", 1).heard(0));
        Edge.is("what it loses by passing is not looked at", 2, Edge.band("h3", "aa", 11).heard(0));
        BreathBand two = Edge.band("c0", "aa;aa", 11);
        Edge.is("the first of two", 2, two.heard(0));
        Edge.is("the second of two", 1, two.heard(1));
        Edge.terms("one that does not SOUND is MISSED.");
        Edge.is("by its seat", 0, Edge.band("h0;h0", "ab", 99).heard(0));
        Edge.is("by the breath, not hummed", 0, Edge.band("t0", "aa", 3).heard(0));
        Edge.is("of nobody", 0, Edge.band("h0", "ab", 99).heard(0));
    }

    private static void keeping() {
        Edge.terms("Then, unless it is KEPT on this BEAT");
        BreathBand x = Edge.band("h1;h2", "", 40, 2, 0, 2, 2);
        int[][] due = {{0, 40, 0}, {1, 39, 1}, {1, 39, 0}, {0, 35, 4}};
        for (int beat = 0; beat < due.length; beat++) {
            for (int what = 0; what < 3; what++) {
                Edge.is("at(" + beat + ", " + what + ")", due[beat][what], x.at(beat, what));
            }
        }
        Edge.is("kept twice on a beat", 1, Edge.band("h1;h2", "", 40, 2, 0, 2, 0).at(1, 0));
        Edge.is("in frost, too", 40, Edge.band("h1;h2", "", 40, 2, 0, 1, 0).at(0, 1));
        Edge.is("its notes come", 2, Edge.band("h1;h2", "aa;ba", 40, 2, 0).sum(0));
        Edge.is("on the last beat", 1, Edge.band("h0;h0", "", 99, 2, 23).at(23, 0));
    }

    private static void passing() {
        Edge.terms(", THE BAG goes to the next SEAT, from the last one to 0, round the CORNER;");
        for (int players = 1; players <= 11; players++) {
            BreathBand x = Edge.band(Edge.times("h0", players), "", 99);
            for (int beat = 0; beat < 24; beat++) {
                Edge.is(players + " players: at(" + beat + ", 0)", (beat + 1) % players, x.at(beat, 0));
            }
        }
        Edge.terms("it holds less by as much as who passes it LETS go");
        BreathBand x = Edge.band("h0;t1;c2;h3;h0", "", 40);
        for (int beat = 0; beat < 4; beat++) {
            Edge.is("who lets go " + beat, beat, x.at(beat, 2));
        }
        Edge.is("behind them all", 34, x.at(3, 1));
    }

    private static void corner() {
        Edge.terms(", and by 2 more round the CORNER");
        for (int players = 1; players <= 11; players++) {
            BreathBand x = Edge.band(Edge.times("h1", players), "", 99);
            for (int beat = 0; beat < 24; beat++) {
                int due = beat % players == players - 1 ? 3 : 1;
                Edge.is(players + " players: at(" + beat + ", 2)", due, x.at(beat, 2));
            }
        }
    }

    private static void frosts() {
        Edge.terms(", by twice all that, if there is a FROST on this BEAT;");
        BreathBand x = Edge.band("h1;h0;h3", "", 99, 1, 0, 1, 1, 1, 2, 1, 2);
        int[] lost = {2, 0, 10, 1, 0, 5};
        for (int beat = 0; beat < lost.length; beat++) {
            Edge.is("at(" + beat + ", 2)", lost[beat], x.at(beat, 2));
        }
        Edge.is("not what notes take", 38, Edge.band("h0;h0", "aa;aa", 40, 1, 0).at(0, 1));
        Edge.is("not what thefts take", 37, Edge.band("h0;h0", "", 40, 1, 0, 0, 0).at(0, 1));
        Edge.is("on the last beat", 6, Edge.band("h1", "", 99, 1, 23).at(23, 2));
    }

    private static void emptyBags() {
        Edge.terms("if there is a FROST on this BEAT; 0 at least.");
        for (int v = 1; v <= 12; v++) {
            BreathBand x = Edge.band("h3", "", v, 1, 0);
            Edge.is("of " + v + ", 10 due", Math.max(0, v - 10), x.at(0, 1));
            Edge.is("of " + v + ", 10 due: what went", Math.min(v, 10), x.at(0, 2));
            BreathBand mild = Edge.band("h3;h3", "", v);
            Edge.is("of " + v + ", 3 due", Math.max(0, v - 3), mild.at(0, 1));
            Edge.is("of " + v + ", 3 due: what went", Math.min(v, 3), mild.at(0, 2));
        }
        Edge.is("flat, it goes on along the row", 0, Edge.band("h3;h3", "", 1).at(23, 0));
        Edge.is("flat, it goes on along the row", 1, Edge.band("h3;h3", "", 1).at(22, 0));
    }

    private static void oneAndNone() {
        Edge.terms("(Where there is one PLAYER alone, it goes round the CORNER to that one;");
        BreathBand one = Edge.band("h1", "aa;ba;xa", 99, 1, 1);
        int[] lost = {3, 6, 3};
        for (int beat = 0; beat < lost.length; beat++) {
            Edge.is("at(" + beat + ", 0)", 0, one.at(beat, 0));
            Edge.is("at(" + beat + ", 2)", lost[beat], one.at(beat, 2));
        }
        Edge.is("all notes sound", 3, one.sum(0));
        // thefts are thefts all the same: only the passing on is told of here
        Edge.terms("where there are none, it stays as it is, in SEAT 0.)");
        BreathBand none = Edge.band("", "aa", 40, 1, 0, 2, 1);
        for (int beat = 0; beat < 24; beat++) {
            Edge.is("at(" + beat + ", 0)", 0, none.at(beat, 0));
            Edge.is("at(" + beat + ", 1)", 40, none.at(beat, 1));
            Edge.is("at(" + beat + ", 2)", 0, none.at(beat, 2));
        }
    }

    private static void at() {
        Edge.terms("Behind a BEAT: in which SEAT THE BAG is; how much it holds; how much it lost by passing on that BEAT.");
        BreathBand x = Edge.band("h1;h0", "aa", 40, 0, 0);
        Edge.is("behind it, not ahead: the seat", 1, x.at(0, 0));
        Edge.is("behind it, not ahead: how much", 35, x.at(0, 1));
        Edge.is("by passing, not by notes and thefts", 1, x.at(0, 2));
        Edge.of(12, "The SEAT (what = 0), how much it holds (1), how much it lost by passing (2).");
        BreathBand last = Edge.band("h1", "xa", 99);
        int[] first = {0, 96, 3};
        int[] end = {0, 26, 3};
        for (int what = 0; what < 3; what++) {
            Edge.is("at(0, " + what + ")", first[what], last.at(0, what));
            Edge.is("at(23, " + what + ")", end[what], last.at(23, what));
        }
        Edge.of(12, "BAD.");
        int[][] bad = {{-1, 0}, {24, 0}, {0, -1}, {0, 3}, {24, 3}, {Edge.FAR[0], 0}, {Edge.FAR[1], 0}, {0, Edge.FAR[0]},
            {0, Edge.FAR[1]}};
        for (int[] r : bad) {
            Edge.refused("at(" + Due.row(r) + ")", BAD, Edge::busy, b -> b.at(r[0], r[1]));
        }
    }

    private static void heard() {
        Edge.terms("Of a NOTE: 0 MISSED, 1 HUMMED, 2 PLAYED.");
        BreathBand x = Edge.band("h0;h0", "aa;ab;aa;aa", 12);
        int[] due = {2, 0, 2, 1};
        for (int i = 0; i < due.length; i++) {
            Edge.is("heard(" + i + ")", due[i], x.heard(i));
        }
        Edge.of(13, "What a NOTE (that there is) is: 0 to 2.");
        BreathBand sixteen = Edge.band("c0", Edge.times("aa", 16), 20);
        for (int i = 0; i < 16; i++) {
            Edge.is("heard(" + i + ")", i < 10 ? 2 : 1, sixteen.heard(i));
        }
        Edge.of(13, "BAD.");
        for (int i : new int[] {-1, 6, 15, 16, Edge.FAR[0], Edge.FAR[1]}) {
            Edge.refused("heard(" + i + ")", BAD, Edge::busy, b -> b.heard(i));
        }
        Edge.refused("sixteen: heard(16)", BAD, Edge::full, b -> b.heard(16));
        Edge.refused("no notes: heard(0)", BAD, b -> Due.tell(b, 0, "t0"), b -> b.heard(0));
        Edge.refused("a fault: heard(0)", BAD, b -> Due.tell(b, 1, "aa;"), b -> b.heard(0));
    }

    private static void takesOfEach() {
        Edge.terms("Of a PLAYER: how many of one's NOTES SOUND; "
            + "how much one TAKES by these in all (less what comes back); how much goes as one passes it on, in all.");
        // kept on beat a, so that the bag is in seat 0 on beats a and b, in seat 1 on c
        BreathBand x = Edge.band("t1;h0;c2", "aa;aa;ab;bb;cc;cc;bc;cb", 90, 2, 0);
        int[][] due = {{2, 4, 8}, {1, 1, 0}, {2, 2, 28}};
        for (int p = 0; p < 3; p++) {
            for (int what = 0; what < 3; what++) {
                Edge.is("takes(" + p + ", " + what + ")", due[p][what], x.takes(p, what));
            }
        }
        BreathBand flat = Edge.band("h3;h3", "", 4);
        Edge.is("no more goes than there is", 3, flat.takes(0, 2));
        Edge.is("no more goes than there is", 1, flat.takes(1, 2));
    }

    private static void takes() {
        Edge.of(14, "How many SOUND (what = 0), how much one TAKES (1), how much goes (2) of a PLAYER.");
        BreathBand x = Edge.band(Edge.times("t1", 11), "kk;vk;aa", 99);
        int[] first = {1, 2, 3};
        int[] last = {2, 4, 6};
        for (int what = 0; what < 3; what++) {
            Edge.is("takes(0, " + what + ")", first[what], x.takes(0, what));
            Edge.is("takes(10, " + what + ")", last[what], x.takes(10, what));
            Edge.is("takes(5, " + what + ")", what == 2 ? 2 : 0, x.takes(5, what));
        }
        Edge.of(14, "BAD.");
        int[][] bad = {{-1, 0}, {3, 0}, {0, -1}, {0, 3}, {Edge.FAR[0], 0}, {Edge.FAR[1], 0}, {0, Edge.FAR[0]},
            {0, Edge.FAR[1]}};
        for (int[] r : bad) {
            Edge.refused("takes(" + Due.row(r) + ")", BAD, Edge::busy, b -> b.takes(r[0], r[1]));
        }
        Edge.refused("eleven: takes(11, 0)", BAD, Edge::full, b -> b.takes(11, 0));
        Edge.refused("none: takes(0, 0)", BAD, b -> b.bag(3), b -> b.takes(0, 0));
    }

    private static void sum() {
        Edge.terms("SOUND: how many NOTES do.");
        Edge.is("no notes", 0, Edge.band("c0", "", 99).sum(0));
        Edge.is("none of them", 0, Edge.band("h0;h0", "ab", 99).sum(0));
        Edge.is("all sixteen, hummed ones too", 16, Edge.band("c0", Edge.times("aa", 16), 16).sum(0));
        Edge.terms("LEAKS: all that goes by passing on, together.");
        Edge.is("all of it, no more", 99, Edge.band("t3", "", 99).sum(1));
        Edge.is("24 times 2", 48, Edge.band("t0", "", 99).sum(1));
        Edge.is("not what is taken and stolen", 34, Edge.band("h3", "aa;aa;aa", 40, 0, 0).sum(1));
        Edge.is("no players", 0, Edge.band("", "", 99, 1, 0).sum(1));
        Edge.terms("STOLEN: all that goes by THEFTS, together.");
        Edge.is("no thefts", 0, Edge.band("t3", "", 99).sum(2));
        Edge.is("first and last beat", 6, Edge.band("", "", 99, 0, 0, 0, 23).sum(2));
        Edge.is("no more than there is", 7, Edge.band("", "", 7, 0, 0, 0, 1, 0, 1).sum(2));
        Edge.is("of an empty bag", 0, Edge.band("t3", "", 99, 0, 23).sum(2));
        Edge.of(15, "SOUND (what = 0), LEAKS (1), STOLEN (2).");
        BreathBand x = Edge.band("h1;h0", "aa;bb;bb", 99, 0, 0, 0, 5);
        int[] due = {3, 36, 6};
        for (int what = 0; what < 3; what++) {
            Edge.is("sum(" + what + ")", due[what], x.sum(what));
        }
        Edge.of(15, "BAD.");
        for (int what : new int[] {-1, 3, Edge.FAR[0], Edge.FAR[1]}) {
            Edge.refused("sum(" + what + ")", BAD, Edge::busy, b -> b.sum(what));
        }
    }

    private static void flat() {
        Edge.terms("FLAT: the first BEAT behind which THE BAG holds nothing; NONE.");
        // a tuba alone that lets nothing go loses 2 a beat round the corner
        int[][] due = {{1, 0}, {2, 0}, {3, 1}, {46, 22}, {47, 23}, {48, 23}, {49, NONE}, {99, NONE}};
        for (int[] r : due) {
            Edge.is("of " + r[0], r[1], Edge.band("t0", "", r[0]).flat());
        }
        Edge.is("behind the beat, by its note", 0, Edge.band("c0;c0", "aa", 1).flat());
        Edge.of(16, "FLAT; NONE.");
        Edge.is("by a theft on the last beat", 23, Edge.band("", "", 3, 0, 23).flat());
        Edge.is("one is left", NONE, Edge.band("", "", 4, 0, 23).flat());
        Edge.is("the first of many", 5, Edge.band("", "", 1, 0, 5, 0, 9).flat());
    }

    private static void silent() {
        Edge.terms("SILENT: PLAYERS of whom no NOTE SOUNDS, as bits.");
        Edge.is("one of two notes is enough", 0, Edge.band("h0", "aa;aa", 2).silent());
        Edge.is("a hum is enough", 0, Edge.band("c0", "aa", 1).silent());
        Edge.is("all are missed", 3, Edge.band("h0;h0", "ab;ba", 40).silent());
        Edge.of(17, "SILENT, as bits.");
        Edge.is("no players", 0, Edge.band("", "aa", 40).silent());
        Edge.is("eleven, no notes", 2047, Edge.band(Edge.ELEVEN, "", 40).silent());
        String all = "aa;bb;cc;dd;ee;ff;gg;hh;ii;jj;kk";
        Edge.is("eleven, all", 0, Edge.band(Edge.times("h0", 11), all, 99).silent());
        Edge.is("but for the first", 1, Edge.band(Edge.times("h0", 11), all.substring(3), 99).silent());
        Edge.is("but for the last", 1024, Edge.band(Edge.times("h0", 11), all.substring(0, 29), 99).silent());
    }

    private static void greedy() {
        Edge.terms("GREEDY: who TAKES most, of like ones the least;");
        Edge.is("a tuba once, a horn twice", 0, Edge.band("h0;t0", "aa;aa;bb", 40).greedy());
        Edge.is("a horn twice, a tuba once", 0, Edge.band("t0;h0", "aa;bb;bb", 40).greedy());
        Edge.is("a tuba twice, a horn three times", 1, Edge.band("h0;t0", "aa;aa;aa;bb;bb", 40).greedy());
        Edge.is("how much, not how many", 1, Edge.band("c0;t0", "aa;bb", 40).greedy());
        Edge.is("alike, 3 and 7", 3, Edge.band(Edge.times("h0", 11), "hh;dd", 40).greedy());
        Edge.is("what one lets go is not looked at", 1, Edge.band("h3;h0", "bb", 40).greedy());
        Edge.terms("NONE: nobody takes anything.");
        Edge.is("no notes", NONE, Edge.band("h3;h0", "", 40).greedy());
        Edge.is("all are missed", NONE, Edge.band("h0;h0", "ab;ba", 40).greedy());
        Edge.of(18, "GREEDY; NONE.");
        Edge.is("no players", NONE, Edge.band("", "aa", 40).greedy());
        Edge.is("the last of eleven", 10, Edge.band(Edge.times("h0", 11), "kk", 40).greedy());
    }
}

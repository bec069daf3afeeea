/** The boundaries of PLAYERS, NOTES and FAULTS, and of promises 1 to 7. */
final class TextEdges {
    private static final int NONE = -1, BAD = -2, NOT = -3, FULL = -4;
    private static final String[] WHOLE = {Edge.ELEVEN, Edge.SIXTEEN};

    private TextEdges() {
    }

    static void all() {
        roomForPlayers();
        players();
        roomForNotes();
        notes();
        faults();
        faultyTexts();
        callsOfAnObject();
        newObject();
        type();
        wipe();
        undo();
        fault();
        player();
        note();
    }

    private static String text(int... bytes) {
        StringBuilder b = new StringBuilder();
        for (int one : bytes) {
            b.append((char) one);
        }
        return b.toString();
    }

    private static BreathBand told(int text, String bytes) {
        BreathBand x = new BreathBand();
        Due.tell(x, text, bytes);
        return x;
    }

    private static void fillsUp(int text, int room) {
        BreathBand x = new BreathBand();
        for (int i = 1; i <= room; i++) {
            Edge.is("byte " + i, i, x.type(text, 'x'));
        }
        Edge.is("a byte more", FULL, x.type(text, 'x'));
        Edge.is("how many bytes", room, x.count(2 + text));
        Edge.is("of the other text", 0, x.count(3 - text));
    }

    private static void roomForPlayers() {
        Edge.of("What it is", "PLAYERS are a text of up to 32 bytes (text 0)");
        fillsUp(0, 32);
        Edge.of("What it is", "11 at most (0 on)");
        for (int n = 1; n <= 11; n++) {
            BreathBand x = told(0, Edge.ELEVEN.substring(0, 3 * n - 1));
            Edge.is(n + " players: count(0)", n, x.count(0));
            Edge.is(n + " players: the first", 0, x.player(0, 0));
            Edge.isTrue(n + " players: the last", x.player(n - 1, 0) >= 0);
            Edge.is(n + " players: one more", BAD, x.player(n, 0));
        }
    }

    private static void players() {
        Edge.of("What it is", "in SEATS of the same numbers");
        String tubas = "t0;t0;t0;t0;t0;t0;t0;t0;t0;t0;t0";
        BreathBand own = Due.band(tubas, "aa;bb;cc;dd;ee;ff;gg;hh;ii;jj;kk");
        BreathBand next = Due.band(tubas, "ab;bc;cd;de;ef;fg;gh;hi;ij;jk;ka");
        own.bag(99);
        next.bag(99);
        Edge.is("each in one's own seat", 11, own.sum(0));
        Edge.is("each in the next one's seat", 0, next.sum(0));
        Edge.of("What it is", "with ; between them:");
        between(0, "t0", "h1");
        Edge.of("What it is", "t (a tuba), h (a horn) or c (a cornet)");
        for (int b = 0; b < 256; b++) {
            int sort = "thc".indexOf(b);
            Edge.is("byte " + b + " alone: fault", sort >= 0 ? 1 : 0, told(0, text(b)).fault(0));
            Edge.is("byte " + b + ": what one plays", sort >= 0 ? sort : BAD, told(0, text(b, '2')).player(0, 0));
        }
        Edge.of("What it is", ", and a figure 0 to 3, how much one LETS go.");
        for (int b = 0; b < 256; b++) {
            boolean well = b >= '0' && b <= '3';
            Edge.is("figure " + b + ": fault", well ? NONE : 1, told(0, text('h', b)).fault(0));
            Edge.is("figure " + b + ": how much", well ? b - '0' : BAD, told(0, text('h', b)).player(0, 1));
        }
    }

    private static void between(int text, String one, String other) {
        for (int b = 0; b < 256; b++) {
            BreathBand x = told(text, one + (char) b + other);
            Edge.is("byte " + b + " between: fault", b == ';' ? NONE : 2, x.fault(text));
            Edge.is("byte " + b + " between: how many", b == ';' ? 2 : 0, x.count(text));
        }
    }

    private static void roomForNotes() {
        Edge.terms("NOTES are a text of up to 47 bytes (text 1)");
        fillsUp(1, 47);
        Edge.terms(", 16 at most (0 on)");
        for (int n = 1; n <= 16; n++) {
            BreathBand x = told(1, Edge.SIXTEEN.substring(0, 3 * n - 1));
            Edge.is(n + " notes: count(1)", n, x.count(1));
            Edge.is(n + " notes: the first", 0, x.note(0, 0));
            Edge.isTrue(n + " notes: the last", x.note(n - 1, 0) >= 0);
            Edge.is(n + " notes: one more", n == 16 ? BAD : NONE, x.note(n, 0));
        }
    }

    private static void notes() {
        Edge.terms("with ; between them:");
        between(1, "aa", "bb");
        Edge.terms("a letter a to x, the BEAT (0 to 23)");
        for (int b = 0; b < 256; b++) {
            boolean well = b >= 'a' && b <= 'x';
            Edge.is("byte " + b + " alone: fault", well ? 1 : 0, told(1, text(b)).fault(1));
            Edge.is("byte " + b + ": beat", well ? b - 'a' : NONE, told(1, text(b, 'a')).note(0, 0));
        }
        Edge.terms(", and a letter a to k, the PLAYER (0 to 10).");
        for (int b = 0; b < 256; b++) {
            boolean well = b >= 'a' && b <= 'k';
            Edge.is("byte " + b + ": fault", well ? NONE : 1, told(1, text('a', b)).fault(1));
            Edge.is("byte " + b + ": player", well ? b - 'a' : NONE, told(1, text('a', b)).note(0, 1));
        }
    }

    private static void faults() {
        Edge.terms("The FAULT of a text is the place of the first byte with which it cannot go on");
        for (int t = 0; t < 2; t++) {
            for (int i = 0; i < WHOLE[t].length(); i++) {
                String ill = WHOLE[t].substring(0, i) + "!" + WHOLE[t].substring(i + 1);
                Edge.is("text " + t + ", at " + i, i, Due.faultOf(t, ill));
                Edge.is("text " + t + ", from " + i + " on", i, Due.faultOf(t, WHOLE[t].substring(0, i) + "!!!"));
            }
        }
        Edge.terms("an empty one is well");
        Edge.is("players", NONE, Due.faultOf(0, ""));
        Edge.is("notes", NONE, Due.faultOf(1, ""));
        Edge.terms("of one that is not ended, as behind a ;, its end");
        for (int t = 0; t < 2; t++) {
            for (int n = 1; n <= WHOLE[t].length(); n++) {
                int due = n % 3 == 2 ? NONE : n;
                Edge.is("text " + t + " of " + n, due, Due.faultOf(t, WHOLE[t].substring(0, n)));
            }
        }
        // a text with eleven players or sixteen notes is full, so that no byte of one more can be told
        Edge.terms("here also of the first byte of a twelfth PLAYER, of a seventeenth NOTE.");
        for (int t = 0; t < 2; t++) {
            BreathBand x = told(t, WHOLE[t]);
            Edge.is("a ; more in text " + t, FULL, x.type(t, ';'));
            Edge.is("fault(" + t + ")", NONE, x.fault(t));
            Edge.is("how many", t == 0 ? 11 : 16, x.count(t));
        }
    }

    private static void faultyTexts() {
        Edge.terms("With a FAULT a text is as if it was empty.");
        String[] players = {"t1;h0;", "t1;h0;c", "t1;h4", "!", Edge.ELEVEN.substring(0, 31) + "4"};
        for (String row : players) {
            Edge.sameAnswers("players " + row, busyBut("", "aa;bb;cb"), busyBut(row, "aa;bb;cb"));
        }
        String[] notes = {"aa;bb;", "aa;b", "aa;yb", "!", Edge.SIXTEEN.substring(0, 46) + "l"};
        for (String row : notes) {
            Edge.sameAnswers("notes " + row, busyBut("t1;h0", ""), busyBut("t1;h0", row));
        }
        BreathBand x = Due.band("t1;h4", "aa;yb");
        Edge.is("its bytes are there", 5, x.count(2));
        Edge.is("its bytes are there", 5, x.count(3));
        x.undo(0);
        x.type(0, '3');
        Edge.is("well again", 2, x.count(0));
        Edge.is("well again", 3, x.player(1, 1));
    }

    private static BreathBand busyBut(String players, String notes) {
        BreathBand x = Due.band(players, notes);
        x.bag(20);
        x.event(0, 1);
        x.event(1, 2);
        x.event(2, 3);
        x.hear(0, 1);
        return x;
    }

    private static void callsOfAnObject() {
        Edge.of("What it is", "An object is used for at most 512 calls after it has been made; what later calls answer is free.");
        BreathBand x = new BreathBand();
        BreathBand twin = new BreathBand();
        Edge.full(x);
        Edge.full(twin);
        // full() takes 32 + 47 + 1 + 16 + 8 calls
        for (int call = 105; call < 511; call++) {
            Edge.is("call " + call, call == 105 ? 99 : 50 + (call - 1) % 50, x.bag(50 + call % 50));
        }
        twin.bag(50 + 510 % 50);
        Edge.is("the 511th", 4, x.get(3, 0, 0));
        Edge.is("the 512th", twin.digest(), x.digest());
    }

    private static void newObject() {
        Edge.of(1, "No PLAYERS, no NOTES, no EVENTS, 40 in THE BAG;");
        BreathBand busy = new BreathBand();
        Edge.full(busy);
        BreathBand x = new BreathBand();
        int[] counts = {0, 0, 0, 0, 0, 40, 0, 0, 0};
        for (int what = 0; what < counts.length; what++) {
            Edge.is("count(" + what + ")", counts[what], x.count(what));
        }
        Edge.is("player(0, 0)", BAD, x.player(0, 0));
        Edge.is("note(0, 0)", NONE, x.note(0, 0));
        Edge.is("heard(0)", BAD, x.heard(0));
        Edge.is("back()", NOT, x.back());
        Edge.is("undo(0)", NOT, x.undo(0));
        Edge.is("undo(1)", NOT, x.undo(1));
        Edge.is("forget()", 0, x.forget());
        Edge.is("bag(40)", 40, x.bag(40));
        Edge.of(1, "all SHEETS are LOST.");
        for (int s = 0; s < 4; s++) {
            Edge.is("lose(" + s + ")", -11, new BreathBand().lose(s));
        }
    }

    private static void type() {
        Edge.of(2, "A byte (0 to 255) comes behind a text: how many.");
        for (int t = 0; t < 2; t++) {
            BreathBand x = new BreathBand();
            Edge.is("type(" + t + ", 0)", 1, x.type(t, 0));
            Edge.is("type(" + t + ", 255)", 2, x.type(t, 255));
            Edge.is("how many", 2, x.count(2 + t));
        }
        BreathBand x = new BreathBand();
        x.type(0, 't');
        x.type(0, '3');
        Edge.is("behind, not ahead", 3, x.player(0, 1));
        Edge.of(2, "BAD;");
        int[][] bad = {{-1, 't'}, {2, 't'}, {0, -1}, {0, 256}, {1, -1}, {1, 256}, {0, 256 + 't'}, {1, 'a' - 256},
            {Edge.FAR[0], 't'}, {Edge.FAR[1], 't'}, {0, Edge.FAR[0]}, {0, Edge.FAR[1]}};
        for (int[] r : bad) {
            Edge.refused("type(" + Due.row(r) + ")", BAD, Edge::busy, b -> b.type(r[0], r[1]));
        }
        Edge.refused("type(0, 256), full", BAD, Edge::full, b -> b.type(0, 256));
        Edge.refused("type(1, -1), full", BAD, Edge::full, b -> b.type(1, -1));
        Edge.of(2, "FULL.");
        Edge.refused("type(0, ';')", FULL, Edge::full, b -> b.type(0, ';'));
        Edge.refused("type(1, ';')", FULL, Edge::full, b -> b.type(1, ';'));
    }

    private static void wipe() {
        Edge.of(3, "A text is empty: how many bytes it had.");
        for (int t = 0; t < 2; t++) {
            BreathBand x = new BreathBand();
            Edge.full(x);
            Edge.is("full: wipe(" + t + ")", WHOLE[t].length(), x.wipe(t));
            Edge.is("wiped: bytes", 0, x.count(2 + t));
            Edge.is("wiped: fault", NONE, x.fault(t));
            Edge.is("wiped: none is left", 0, x.count(t));
            Edge.is("the other stays", t == 0 ? 16 : 11, x.count(1 - t));
            Edge.is("empty: wipe(" + t + ")", 0, x.wipe(t));
            Edge.is("there is room again", 1, x.type(t, '!'));
            Edge.is("with a fault: wipe(" + t + ")", 1, x.wipe(t));
        }
        Edge.of(3, "BAD.");
        for (int text : new int[] {-1, 2, Edge.FAR[0], Edge.FAR[1]}) {
            Edge.refused("wipe(" + text + ")", BAD, Edge::busy, b -> b.wipe(text));
        }
    }

    private static void undo() {
        Edge.of(4, "The last byte of a text is undone: how many are left.");
        for (int t = 0; t < 2; t++) {
            BreathBand x = told(t, WHOLE[t]);
            for (int n = WHOLE[t].length() - 1; n >= 0; n--) {
                Edge.is("undo(" + t + ")", n, x.undo(t));
                Edge.is("of " + n + ": how many", n % 3 == 2 ? (n + 1) / 3 : 0, x.count(t));
            }
        }
        BreathBand x = told(0, Edge.ELEVEN);
        x.undo(0);
        Edge.is("there is room for one again", 32, x.type(0, '3'));
        Edge.is("it was the last", 3, x.player(10, 1));
        Edge.of(4, "BAD;");
        for (int text : new int[] {-1, 2, Edge.FAR[0], Edge.FAR[1]}) {
            Edge.refused("undo(" + text + ")", BAD, Edge::busy, b -> b.undo(text));
            Edge.refused("all empty: undo(" + text + ")", BAD, b -> b.bag(3), b -> b.undo(text));
        }
        Edge.of(4, "NOT: it is empty.");
        Edge.refused("undo(0)", NOT, b -> Due.tell(b, 1, "aa"), b -> b.undo(0));
        Edge.refused("undo(1)", NOT, b -> Due.tell(b, 0, "t0"), b -> b.undo(1));
    }

    private static void fault() {
        Edge.of(5, "The FAULT of a text; NONE.");
        BreathBand x = Due.band("t9", "aa;!");
        Edge.is("of players", 1, x.fault(0));
        Edge.is("of notes", 3, x.fault(1));
        x.undo(0);
        x.type(0, '0');
        Edge.is("of players, mended", NONE, x.fault(0));
        Edge.is("of notes still", 3, x.fault(1));
        Edge.of(5, "BAD.");
        for (int text : new int[] {-1, 2, Edge.FAR[0], Edge.FAR[1]}) {
            Edge.refused("fault(" + text + ")", BAD, Edge::busy, b -> b.fault(text));
        }
    }

    private static void player() {
        Edge.of(6, "What one plays (what = 0: 0 t, 1 h, 2 c), how much one LETS go (1) of a PLAYER.");
        BreathBand x = told(0, Edge.ELEVEN);
        for (int p = 0; p < 11; p++) {
            Edge.is("player(" + p + ", 0)", p / 4, x.player(p, 0));
            Edge.is("player(" + p + ", 1)", p % 4, x.player(p, 1));
        }
        Edge.of(6, "BAD.");
        int[][] bad = {{-1, 0}, {3, 0}, {0, -1}, {0, 2}, {2, 2}, {Edge.FAR[0], 0}, {Edge.FAR[1], 0}, {0, Edge.FAR[0]},
            {0, Edge.FAR[1]}};
        for (int[] r : bad) {
            Edge.refused("player(" + Due.row(r) + ")", BAD, Edge::busy, b -> b.player(r[0], r[1]));
        }
        Edge.refused("eleven: player(11, 0)", BAD, Edge::full, b -> b.player(11, 0));
        Edge.refused("none: player(0, 0)", BAD, b -> b.bag(3), b -> b.player(0, 0));
        Edge.refused("a fault: player(0, 0)", BAD, b -> Due.tell(b, 0, "t0;"), b -> b.player(0, 0));
    }

    private static void note() {
        Edge.of(7, "The BEAT (what = 0), the PLAYER (1) of the i-th NOTE (0 to 15);");
        BreathBand x = told(1, Edge.SIXTEEN);
        for (int i = 0; i < 16; i++) {
            Edge.is("note(" + i + ", 0)", i == 15 ? 23 : i, x.note(i, 0));
            Edge.is("note(" + i + ", 1)", i == 15 ? 10 : i % 11, x.note(i, 1));
        }
        Edge.of(7, "NONE: there is none.");
        x = Due.band("t0", "aa;bb");
        Edge.is("the last one's player", 1, x.note(1, 1));
        for (int i = 2; i < 16; i++) {
            Edge.is("note(" + i + ", 0)", NONE, x.note(i, 0));
            Edge.is("note(" + i + ", 1)", NONE, x.note(i, 1));
        }
        x.type(1, ';');
        Edge.is("a fault: note(0, 0)", NONE, x.note(0, 0));
        Edge.of(7, "BAD.");
        int[][] bad = {{-1, 0}, {16, 0}, {0, -1}, {0, 2}, {15, 2}, {15, -1}, {Edge.FAR[0], 0}, {Edge.FAR[1], 0},
            {0, Edge.FAR[0]}, {0, Edge.FAR[1]}};
        for (int[] r : bad) {
            Edge.refused("note(" + Due.row(r) + ")", BAD, Edge::busy, b -> b.note(r[0], r[1]));
        }
        Edge.refused("sixteen: note(16, 0)", BAD, Edge::full, b -> b.note(16, 0));
    }
}

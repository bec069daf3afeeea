/** Promises 1 to 7: a new object, type, wipe, undo, fault, player, note. */
public final class TextTests {
    public static void main(String[] args) {
        aNewObject();
        typing();
        wiping();
        undoing();
        faultsOfPlayers();
        faultsOfNotes();
        players();
        notes();
        faultyTextsAreAsIfEmpty();
        Due.end();
    }

    private static void aNewObject() {
        BreathBand x = new BreathBand();
        int[] counts = {0, 0, 0, 0, 0, 40, 0, 0, 0};
        for (int what = 0; what < counts.length; what++) {
            Due.due("new: count(" + what + ")", counts[what], x.count(what));
        }
        Due.due("new: fault(0)", BreathBand.NONE, x.fault(0));
        Due.due("new: fault(1)", BreathBand.NONE, x.fault(1));
        Due.due("new: at(23, 0)", 0, x.at(23, 0));
        Due.due("new: at(23, 1)", 40, x.at(23, 1));
        Due.due("new: note(0, 0)", BreathBand.NONE, x.note(0, 0));
        Due.due("new: back()", BreathBand.NOT, x.back());
        for (int s = 0; s < 4; s++) {
            Due.due("new: lose(" + s + ")", -11, x.lose(s));
        }
        Due.due("NONE", -1, BreathBand.NONE);
        Due.due("BAD", -2, BreathBand.BAD);
        Due.due("NOT", -3, BreathBand.NOT);
        Due.due("FULL", -4, BreathBand.FULL);
    }

    private static void typing() {
        BreathBand x = new BreathBand();
        Due.due("type(0, 0)", 1, x.type(0, 0));
        Due.due("type(0, 255)", 2, x.type(0, 255));
        Due.due("type(1, 'a')", 1, x.type(1, 'a'));
        Due.due("count(2)", 2, x.count(2));
        Due.due("count(3)", 1, x.count(3));
        Due.due("type(-1, 0)", BreathBand.BAD, x.type(-1, 0));
        Due.due("type(2, 0)", BreathBand.BAD, x.type(2, 0));
        Due.due("type(0, -1)", BreathBand.BAD, x.type(0, -1));
        Due.due("type(0, 256)", BreathBand.BAD, x.type(0, 256));
        Due.due("refusals change nothing", 2, x.count(2));
        for (int i = 3; i <= 32; i++) {
            Due.due("type to " + i, i, x.type(0, 'x'));
        }
        Due.due("the 33rd byte", BreathBand.FULL, x.type(0, 'x'));
        Due.due("BAD ahead of FULL", BreathBand.BAD, x.type(0, 256));
        Due.due("full: count(2)", 32, x.count(2));
        for (int i = 2; i <= 47; i++) {
            Due.due("type notes to " + i, i, x.type(1, 'x'));
        }
        Due.due("the 48th byte", BreathBand.FULL, x.type(1, 'x'));
        Due.due("full: count(3)", 47, x.count(3));
    }

    private static void wiping() {
        BreathBand x = Due.band("t1;h0", "aa");
        Due.due("wipe(2)", BreathBand.BAD, x.wipe(2));
        Due.due("wipe(-1)", BreathBand.BAD, x.wipe(-1));
        Due.due("wipe(0)", 5, x.wipe(0));
        Due.due("wiped: count(2)", 0, x.count(2));
        Due.due("wiped: count(0)", 0, x.count(0));
        Due.due("the other stays", 1, x.count(1));
        Due.due("wipe(0) again", 0, x.wipe(0));
        Due.due("wipe(1)", 2, x.wipe(1));
        Due.due("wiped: count(1)", 0, x.count(1));
        Due.tell(x, 0, "c3");
        Due.due("told anew", 3, x.player(0, 1));
    }

    private static void undoing() {
        BreathBand x = Due.band("t1;h", "aa;b");
        Due.due("undo(2)", BreathBand.BAD, x.undo(2));
        Due.due("undo(-1)", BreathBand.BAD, x.undo(-1));
        Due.due("undo(0)", 3, x.undo(0));
        Due.due("undo(0)", 2, x.undo(0));
        Due.due("undone: fault(0)", BreathBand.NONE, x.fault(0));
        Due.due("undone: count(0)", 1, x.count(0));
        Due.due("undo(0)", 1, x.undo(0));
        Due.due("undo(0)", 0, x.undo(0));
        Due.due("undo(0) of none", BreathBand.NOT, x.undo(0));
        Due.due("undo(1)", 3, x.undo(1));
        Due.due("undo(1)", 2, x.undo(1));
        Due.due("undone: count(1)", 1, x.count(1));
    }

    private static void faultsOfPlayers() {
        BreathBand x = new BreathBand();
        Due.due("fault(2)", BreathBand.BAD, x.fault(2));
        Due.due("fault(-1)", BreathBand.BAD, x.fault(-1));
        String[] well = {"", "t0", "h1", "c2", "t3", "t0;h3", "c0;c0;c0;c0;c0;c0;c0;c0;c0;c0;c0"};
        for (String text : well) {
            Due.due("players " + text, BreathBand.NONE, Due.faultOf(0, text));
        }
        Object[][] ill = {{"x", 0}, {"T0", 0}, {"0", 0}, {";", 0}, {"t4", 1}, {"t/", 1}, {"t;", 1}, {"tt", 1},
            {"t", 1}, {"t0;", 3}, {"t00", 2}, {"t0t", 2}, {"t0h1", 2}, {"t0:", 2}, {"t0;;", 3}, {"t0;h", 4},
            {"t0;h9", 4}, {"t0;h1 ", 5}, {"s", 0}, {"u", 0}, {"i", 0}, {"b", 0}, {"t\u0000", 1}, {"\u00ff", 0},
            {"x0;t", 0}};
        for (Object[] row : ill) {
            Due.due("players " + row[0], (Integer) row[1], Due.faultOf(0, (String) row[0]));
        }
    }

    private static void faultsOfNotes() {
        String sixteen = "aa;aa;aa;aa;aa;aa;aa;aa;aa;aa;aa;aa;aa;aa;aa;aa";
        String[] well = {"", "aa", "xk", "ak", "xa", "aa;aa", "xk;aa;bb", sixteen};
        for (String text : well) {
            Due.due("notes " + text, BreathBand.NONE, Due.faultOf(1, text));
        }
        Object[][] ill = {{"y", 0}, {"`", 0}, {"A", 0}, {"al", 1}, {"a`", 1}, {"a;", 1}, {"a", 1}, {"aa;", 3},
            {"aaa", 2}, {"aa;a", 4}, {"aa;yk", 3}, {"aa;;", 3}, {"aa;xl", 4}, {";", 0}, {"0a", 0}, {"a0", 1}};
        for (Object[] row : ill) {
            Due.due("notes " + row[0], (Integer) row[1], Due.faultOf(1, (String) row[0]));
        }
    }

    private static void players() {
        BreathBand x = Due.band("t1;h0;c3", "");
        int[][] due = {{0, 1}, {1, 0}, {2, 3}};
        for (int p = 0; p < due.length; p++) {
            Due.due("player(" + p + ", 0)", due[p][0], x.player(p, 0));
            Due.due("player(" + p + ", 1)", due[p][1], x.player(p, 1));
        }
        Due.due("player(3, 0)", BreathBand.BAD, x.player(3, 0));
        Due.due("player(-1, 0)", BreathBand.BAD, x.player(-1, 0));
        Due.due("player(0, 2)", BreathBand.BAD, x.player(0, 2));
        Due.due("player(0, -1)", BreathBand.BAD, x.player(0, -1));
        BreathBand eleven = Due.band("t0;t1;t2;t3;h0;h1;h2;h3;c0;c1;c2", "");
        Due.due("eleven: player(10, 0)", 2, eleven.player(10, 0));
        Due.due("eleven: player(10, 1)", 2, eleven.player(10, 1));
        Due.due("eleven: player(11, 0)", BreathBand.BAD, eleven.player(11, 0));
    }

    private static void notes() {
        BreathBand x = Due.band("t1", "aa;xk;cb");
        int[][] due = {{0, 0}, {23, 10}, {2, 1}, {-1, -1}};
        for (int i = 0; i < due.length; i++) {
            Due.due("note(" + i + ", 0)", due[i][0], x.note(i, 0));
            Due.due("note(" + i + ", 1)", due[i][1], x.note(i, 1));
        }
        Due.due("note(15, 1)", BreathBand.NONE, x.note(15, 1));
        Due.due("note(16, 0)", BreathBand.BAD, x.note(16, 0));
        Due.due("note(-1, 0)", BreathBand.BAD, x.note(-1, 0));
        Due.due("note(0, 2)", BreathBand.BAD, x.note(0, 2));
        Due.due("note(0, -1)", BreathBand.BAD, x.note(0, -1));
        Due.due("BAD ahead of NONE", BreathBand.BAD, x.note(15, 2));
    }

    private static void faultyTextsAreAsIfEmpty() {
        BreathBand x = Due.band("t1;h", "aa;b");
        Due.due("faulty: count(0)", 0, x.count(0));
        Due.due("faulty: count(1)", 0, x.count(1));
        Due.due("faulty: count(2)", 4, x.count(2));
        Due.due("faulty: count(3)", 4, x.count(3));
        Due.due("faulty: player(0, 0)", BreathBand.BAD, x.player(0, 0));
        Due.due("faulty: note(0, 0)", BreathBand.NONE, x.note(0, 0));
        x.type(0, '2');
        x.type(1, 'k');
        Due.due("well: count(0)", 2, x.count(0));
        Due.due("well: count(1)", 2, x.count(1));
        Due.due("well: player(1, 1)", 2, x.player(1, 1));
        Due.due("well: note(1, 1)", 10, x.note(1, 1));
    }
}

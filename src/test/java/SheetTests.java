/** Promises 30 to 35: sheet, lose, lay, get, copy, write. */
public final class SheetTests {
    private static final int LEAST = Integer.MIN_VALUE;

    public static void main(String[] args) {
        sheets();
        losses();
        layings();
        layingRefusals();
        gettingRefusals();
        copies();
        copyRefusals();
        writings();
        Due.end();
    }

    private static void sheets() {
        BreathBand x = new BreathBand();
        for (int s = 0; s < 4; s++) {
            Due.due("sheet(" + s + ", 0, 60)", 60, x.sheet(s, 0, 60));
        }
        Due.due("sheet(0, 2, 0)", 0, x.sheet(0, 2, 0));
        int[][] bad = {{-1, 0, 1}, {4, 0, 1}, {0, -1, 1}, {0, 3, 1}, {0, 0, 61}, {0, 0, Integer.MAX_VALUE}};
        for (int[] row : bad) {
            Due.due("sheet(" + Due.row(row) + ")", BreathBand.BAD, x.sheet(row[0], row[1], row[2]));
        }
        Due.due("BAD ahead of SIZE: the sheet", BreathBand.BAD, x.sheet(4, 0, -1));
        Due.due("BAD ahead of SIZE: the form", BreathBand.BAD, x.sheet(0, 3, -1));
        Due.due("BAD is no finding", 0, x.count(8));
        Due.due("SIZE", -15, x.sheet(1, 2, -1));
        Due.due("SIZE, the least int", -15, x.sheet(1, 2, LEAST));
        Due.due("count(8)", 5, x.count(8));
        Due.due("a finding changes nothing", 0, x.get(1, 0, 59));
        x.lay(1, 0, 59, 7);
        x.sheet(1, 0, 60);
        Due.due("a new row holds 0", 0, x.get(1, 0, 59));
    }

    private static void losses() {
        BreathBand x = new BreathBand();
        Due.due("lose(-1)", BreathBand.BAD, x.lose(-1));
        Due.due("lose(4)", BreathBand.BAD, x.lose(4));
        Due.due("count(8)", 0, x.count(8));
        Due.due("lose(3)", -11, x.lose(3));
        Due.due("count(8)", 1, x.count(8));
        x.sheet(3, 1, 9);
        x.sheet(2, 1, 0);
        Due.due("lose(3)", 9, x.lose(3));
        Due.due("lose(3) again", -11, x.lose(3));
        Due.due("lose(2), of no items", 0, x.lose(2));
        Due.due("lose(2) again", -11, x.lose(2));
        x.sheet(3, 2, 1);
        Due.due("back, with 0", 0, x.get(3, 2, 0));
    }

    private static void layings() {
        int[] values = {0, 1, -1, 127, 128, 200, 255, 256, -128, -129, 32767, 32768, 40000, 65536, -32769,
            Integer.MAX_VALUE, LEAST, 0x12345678, 0x1234FF80};
        BreathBand x = new BreathBand();
        for (int form = 0; form < 3; form++) {
            x.sheet(form, form, 60);
            for (int i = 0; i < values.length; i++) {
                int v = values[i];
                int kept = form == 0 ? (byte) v : form == 1 ? (short) v : v;
                Due.due("lay(" + form + ", " + form + ", " + i + ", " + v + ")", 1, x.lay(form, form, i, v));
                Due.due("get(" + form + ", " + form + ", " + i + ") of " + v, kept, x.get(form, form, i));
            }
            Due.due("the next one is as it was", 0, x.get(form, form, values.length));
            Due.due("the last one", 1, x.lay(form, form, 59, 5));
            Due.due("the last one", 5, x.get(form, form, 59));
        }
    }

    private static void layingRefusals() {
        BreathBand x = new BreathBand();
        x.sheet(0, 1, 3);
        int[][] bad = {{-1, 0, 0}, {4, 0, 0}, {0, -1, 0}, {0, 3, 0}, {1, 3, 0}};
        for (int[] row : bad) {
            Due.due("lay(" + Due.row(row) + ")", BreathBand.BAD, x.lay(row[0], row[1], row[2], 1));
        }
        Due.due("BAD is no finding", 0, x.count(8));
        Due.due("NULL", -11, x.lay(1, 0, 0, 1));
        Due.due("NULL ahead of INDEX", -11, x.lay(1, 0, -1, 1));
        Due.due("count(8)", 1, x.count(8));
        Due.due("CAST", -13, x.lay(0, 0, 0, 1));
        Due.due("CAST, the other way", -13, x.lay(0, 2, 0, 1));
        Due.due("CAST ahead of INDEX", -13, x.lay(0, 2, 3, 1));
        Due.due("count(8)", 3, x.count(8));
        Due.due("INDEX, above", -12, x.lay(0, 1, 3, 1));
        Due.due("INDEX, below", -12, x.lay(0, 1, -1, 1));
        Due.due("count(8)", 2, x.count(8));
        for (int i = 0; i < 3; i++) {
            Due.due("nothing was laid", 0, x.get(0, 1, i));
        }
    }

    private static void gettingRefusals() {
        BreathBand x = new BreathBand();
        x.sheet(0, 1, 3);
        int[][] bad = {{-1, 0, 0}, {4, 0, 0}, {0, -1, 0}, {0, 3, 0}};
        for (int[] row : bad) {
            Due.due("get(" + Due.row(row) + ")", LEAST, x.get(row[0], row[1], row[2]));
        }
        Due.due("BAD is no finding", 0, x.count(8));
        int[][] findings = {{1, 0, 0, 1}, {0, 0, 0, 3}, {0, 1, 3, 2}, {1, 1, -1, 1}, {0, 2, -1, 3}, {0, 1, -1, 2}};
        for (int[] row : findings) {
            Due.due("get(" + Due.row(row) + ")", LEAST, x.get(row[0], row[1], row[2]));
            Due.due("get(" + Due.row(row) + "): count(8)", row[3], x.count(8));
        }
        Due.due("one that is there", 0, x.get(0, 1, 2));
        Due.due("the latest stays", 2, x.count(8));
        x.sheet(0, 1, 0);
        Due.due("no items", LEAST, x.get(0, 1, 0));
    }

    private static BreathBand counted(int form, int n) {
        BreathBand x = new BreathBand();
        x.sheet(0, form, n);
        for (int i = 0; i < n; i++) {
            x.lay(0, form, i, i + 1);
        }
        return x;
    }

    private static void dueRow(String what, BreathBand x, int s, int form, int... items) {
        for (int i = 0; i < items.length; i++) {
            Due.due(what + ": item " + i, items[i], x.get(s, form, i));
        }
    }

    private static void copies() {
        for (int form = 0; form < 3; form++) {
            BreathBand x = counted(form, 5);
            x.sheet(3, form, 4);
            Due.due("copy(0, 2, 3, 1, 3)", 1, x.copy(0, 2, 3, 1, 3));
            dueRow("another sheet", x, 3, form, 0, 3, 4, 5);
            dueRow("it stays", x, 0, form, 1, 2, 3, 4, 5);
            Due.due("copy(0, 0, 0, 1, 4)", 1, x.copy(0, 0, 0, 1, 4));
            dueRow("onward, as they were", x, 0, form, 1, 1, 2, 3, 4);
            Due.due("copy(0, 1, 0, 0, 4)", 1, x.copy(0, 1, 0, 0, 4));
            dueRow("backward, as they were", x, 0, form, 1, 2, 3, 4, 4);
            Due.due("none, at both ends", 1, x.copy(0, 5, 3, 4, 0));
            Due.due("all", 1, x.copy(3, 0, 0, 1, 4));
            dueRow("all", x, 0, form, 1, 0, 3, 4, 5);
        }
    }

    private static void copyRefusals() {
        BreathBand x = counted(1, 3);
        x.sheet(1, 1, 2);
        x.sheet(2, 2, 2);
        int[][] bad = {{-1, 0, 0, 0, 0}, {4, 0, 0, 0, 0}, {0, 0, -1, 0, 0}, {0, 0, 4, 0, 0}, {3, -1, 4, 0, 0}};
        for (int[] r : bad) {
            Due.due("copy(" + Due.row(r) + ")", BreathBand.BAD, x.copy(r[0], r[1], r[2], r[3], r[4]));
        }
        Due.due("BAD is no finding", 0, x.count(8));
        int big = Integer.MAX_VALUE;
        int[][] findings = {{3, 0, 0, 0, 1, 1}, {0, 0, 3, 0, 1, 1}, {3, 0, 3, 0, 1, 1}, {3, -1, 2, 0, 1, 1},
            {0, 0, 2, 0, 1, 4}, {2, 0, 0, 0, 1, 4}, {0, -1, 2, 0, 1, 4}, {0, 0, 2, 0, 0, 4},
            {0, -1, 1, 0, 1, 2}, {0, 0, 1, -1, 1, 2}, {0, 0, 1, 0, -1, 2}, {0, 2, 1, 0, 2, 2}, {0, 0, 1, 1, 2, 2},
            {0, 0, 1, 0, 3, 2}, {1, 0, 0, 0, 3, 2}, {0, 4, 1, 0, 0, 2}, {0, 0, 1, 3, 0, 2}, {0, big, 1, 0, 1, 2},
            {0, 0, 1, big, 1, 2}, {0, 1, 1, 1, big, 2}, {0, 0, 1, 0, LEAST, 2}, {0, 3, 1, 0, 1, 2}, {0, -1, 1, 0, 0, 2},
            {0, 0, 1, -1, 0, 2}};
        for (int[] r : findings) {
            Due.due("copy(" + Due.row(r) + ")", -10 - r[5], x.copy(r[0], r[1], r[2], r[3], r[4]));
            Due.due("copy(" + Due.row(r) + "): count(8)", r[5], x.count(8));
        }
        dueRow("nothing came", x, 1, 1, 0, 0);
        dueRow("nothing went", x, 0, 1, 1, 2, 3);
    }

    private static void writings() {
        BreathBand x = Due.band("h1;h0", "aa");
        Due.due("write(-1)", BreathBand.BAD, x.write(-1));
        Due.due("write(4)", BreathBand.BAD, x.write(4));
        Due.due("count(8)", 0, x.count(8));
        Due.due("write(0), lost", -11, x.write(0));
        Due.due("count(8)", 1, x.count(8));
        for (int form = 0; form < 3; form++) {
            x.sheet(form, form, 26);
            x.lay(form, form, 24, 77);
            Due.due("write(" + form + ")", 24, x.write(form));
            for (int beat = 0; beat < 24; beat++) {
                Due.due("written, " + beat, x.at(beat, 1), x.get(form, form, beat));
            }
            Due.due("no further", 77, x.get(form, form, 24));
        }
        dueRow("by hand", x, 0, 0, 38, 36, 35, 33, 32);
        x.sheet(3, 2, 3);
        Due.due("write(3), three items", 3, x.write(3));
        dueRow("three items", x, 3, 2, 38, 36, 35);
        x.sheet(3, 0, 0);
        Due.due("write(3), no items", 0, x.write(3));
        x.bag(99);
        x.wipe(0);
        x.sheet(3, 0, 24);
        Due.due("write(3), 24 items", 24, x.write(3));
        Due.due("the most there is", 99, x.get(3, 0, 23));
    }
}

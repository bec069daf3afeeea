/** The boundaries of SHEETS, FINDINGS and refusals: promises 30 to 35. */
final class SheetEdges {
    private static final int BAD = -2, NULL = -11, INDEX = -12, CAST = -13, STORE = -14, SIZE = -15;
    private static final int LEAST = Integer.MIN_VALUE;
    private static final int MOST = Integer.MAX_VALUE;

    private SheetEdges() {
    }

    static void all() {
        sheets();
        findings();
        refusals();
        sheet();
        lose();
        lay();
        layRefusals();
        get();
        copy();
        copyRefusals();
        copyIndexes();
        write();
    }

    private static void sheets() {
        Edge.terms("SHEETS 0 .. 3 are LOST (at first)");
        BreathBand x = new BreathBand();
        for (int s = 0; s < 4; s++) {
            Edge.is("get(" + s + ", 0, 0)", LEAST, x.get(s, 0, 0));
            Edge.is("count(8)", 1, x.count(8));
            Edge.is("lose(" + s + ")", NULL, x.lose(s));
        }
        Edge.is("lose(-1)", BAD, x.lose(-1));
        Edge.is("lose(4)", BAD, x.lose(4));
        Edge.terms("or a row of a FORM: 0 bytes, 1 shorts, 2 ints,");
        int[][] kept = {{127, -128, -1, 0}, {32767, -32768, -1, 0}, {MOST, LEAST + 1, -1, 65536}};
        int[][] laid = {{127, 128, 255, 256}, {32767, 32768, 65535, 65536}, {MOST, LEAST + 1, -1, 65536}};
        for (int form = 0; form < 3; form++) {
            Edge.row(x, form, form, laid[form]);
            for (int i = 0; i < 4; i++) {
                Edge.is("form " + form + ", of " + laid[form][i], kept[form][i], x.get(form, form, i));
            }
        }
        Edge.terms("of 0 to 60 items");
        Edge.is("none", 0, x.sheet(0, 0, 0));
        Edge.is("none: item 0", INDEX, x.lay(0, 0, 0, 1));
        Edge.is("sixty", 60, x.sheet(0, 0, 60));
        Edge.is("sixty: item 59", 1, x.lay(0, 0, 59, 1));
        Edge.is("sixty: item 60", INDEX, x.lay(0, 0, 60, 1));
        Edge.is("sixty-one", BAD, x.sheet(0, 0, 61));
        Edge.terms("items (0 at first).");
        for (int form = 0; form < 3; form++) {
            x.sheet(3, form, 60);
            for (int i = 0; i < 60; i++) {
                Edge.is("item " + i, 0, x.get(3, form, i));
            }
        }
    }

    private static void findings() {
        Edge.terms("FINDINGS (answers -10 less the number; they change nothing but count() 8):");
        Edge.refused("the first", -11, Edge::busy, b -> b.lose(3));
        Edge.refused("the last", -15, Edge::busy, b -> b.sheet(0, 0, -1));
        Edge.terms("1 NULL: the SHEET is LOST;");
        Edge.refused("lay(3, 0, 0, 1)", NULL, Edge::busy, b -> b.lay(3, 0, 0, 1));
        Edge.terms("2 INDEX: there is no such item;");
        Edge.refused("lay(0, 0, 3, 1)", INDEX, Edge::busy, b -> b.lay(0, 0, 3, 1));
        Edge.terms("3 CAST: it has another FORM;");
        Edge.refused("lay(0, 1, 0, 1)", CAST, Edge::busy, b -> b.lay(0, 1, 0, 1));
        Edge.terms("4 STORE: unlike FORMS;");
        Edge.refused("copy(0, 0, 1, 0, 1)", STORE, Edge::busy, b -> b.copy(0, 0, 1, 0, 1));
        Edge.terms("5 SIZE: below 0.");
        Edge.refused("sheet(1, 1, -1)", SIZE, Edge::busy, b -> b.sheet(1, 1, -1));
    }

    private static void refusals() {
        Edge.terms("Refusals, the first that fits, in the order told at each act:");
        Edge.refused("BAD, and NULL, and an index below 0", BAD, Edge::busy, b -> b.lay(3, 3, -1, 1));
        Edge.refused("NULL, and an index below 0", NULL, Edge::busy, b -> b.lay(3, 2, -1, 1));
        Edge.refused("CAST, and an index below 0", CAST, Edge::busy, b -> b.lay(0, 2, -1, 1));
        Edge.refused("STORE, and an index below 0", STORE, Edge::busy, b -> b.copy(0, -1, 1, -1, -1));
        Edge.refused("BAD, and no room", BAD, Edge::full, b -> b.event(0, 24));
        Edge.terms("BAD -2 (a number not as told, no such thing), NULL, NOT -3 (as told), FULL -4, other FINDINGS.");
        Edge.refused("a number not as told", -2, Edge::busy, b -> b.bag(100));
        Edge.refused("no such thing", -2, Edge::busy, b -> b.takes(3, 0));
        Edge.refused("NULL", -11, Edge::busy, b -> b.read(3));
        Edge.refused("NOT", -3, b -> b.bag(3), b -> b.back());
        Edge.refused("FULL", -4, Edge::full, b -> b.hear(0, 0));
        Edge.refused("a finding", -13, Edge::busy, b -> b.lay(1, 0, 0, 0));
        Edge.terms("They change nothing (FINDINGS but count() 8).");
        Edge.refused("type(0, 256)", BAD, Edge::busy, b -> b.type(0, 256));
        Edge.refused("copy(2, 0, 2, 1, 4)", INDEX, Edge::busy, b -> b.copy(2, 0, 2, 1, 4));
        Edge.terms("Where the answer is a long, a refusal -x is the least long and x more.");
        Edge.refused("chance(17, 0, 0)", -9223372036854775806L, Edge::busy, b -> b.chance(17, 0, 0));
    }

    private static void sheet() {
        Edge.of(30, "A SHEET is a new row of a FORM with n items: n.");
        BreathBand x = new BreathBand();
        for (int s = 0; s < 4; s++) {
            for (int form = 0; form < 3; form++) {
                Edge.is("sheet(" + Due.row(s, form, 60) + ")", 60, x.sheet(s, form, 60));
                x.lay(s, form, 59, 7);
                Edge.is("sheet(" + Due.row(s, form, 60) + ") again", 60, x.sheet(s, form, 60));
                Edge.is("it is a new row", 0, x.get(s, form, 59));
                Edge.is("sheet(" + Due.row(s, form, 0) + ")", 0, x.sheet(s, form, 0));
                Edge.is("it is not lost", 0, x.lose(s));
            }
        }
        Edge.row(x, 0, 0, 1, 2, 3);
        Edge.row(x, 1, 0, 4);
        x.sheet(0, 2, 5);
        Edge.is("of another form by now", 0, x.get(0, 2, 4));
        Edge.is("another sheet stays", 4, x.get(1, 0, 0));
        Edge.of(30, "BAD: SHEET, FORM, above 60;");
        int[][] bad = {{-1, 0, 1}, {4, 0, 1}, {0, -1, 1}, {0, 3, 1}, {0, 0, 61}, {3, 2, 61}, {0, 0, MOST}, {LEAST, 0, 1},
            {MOST, 0, 1}, {0, LEAST, 1}, {0, MOST, 1}, {4, 0, -1}, {-1, 0, -1}, {0, 3, -1}, {0, -1, -1}};
        for (int[] r : bad) {
            Edge.refused("sheet(" + Due.row(r) + ")", BAD, Edge::busy, b -> b.sheet(r[0], r[1], r[2]));
        }
        Edge.of(30, "SIZE.");
        for (int n : new int[] {-1, LEAST}) {
            Edge.refused("sheet(0, 0, " + n + ")", SIZE, Edge::busy, b -> b.sheet(0, 0, n));
            Edge.refused("lost: sheet(3, 2, " + n + ")", SIZE, Edge::busy, b -> b.sheet(3, 2, n));
        }
    }

    private static void lose() {
        Edge.of(31, "It is LOST: how many items it had.");
        BreathBand x = new BreathBand();
        for (int s = 0; s < 4; s++) {
            x.sheet(s, 1, 60);
            Edge.is("sixty: lose(" + s + ")", 60, x.lose(s));
            Edge.is("it is lost", NULL, x.lay(s, 1, 0, 1));
            x.sheet(s, 1, 0);
            Edge.is("none: lose(" + s + ")", 0, x.lose(s));
            Edge.is("it is lost", NULL, x.write(s));
        }
        Edge.row(x, 0, 0, 1);
        Edge.row(x, 1, 0, 2);
        x.lose(0);
        Edge.is("another stays", 2, x.get(1, 0, 0));
        x.sheet(0, 0, 1);
        Edge.is("what it held is lost, too", 0, x.get(0, 0, 0));
        Edge.of(31, "BAD;");
        for (int s : new int[] {-1, 4, LEAST, MOST}) {
            Edge.refused("lose(" + s + ")", BAD, Edge::busy, b -> b.lose(s));
        }
        Edge.of(31, "NULL.");
        Edge.refused("lose(3)", NULL, Edge::busy, b -> b.lose(3));
        Edge.refused("lose(0) twice", NULL, b -> {
            b.sheet(0, 0, 9);
            b.lose(0);
        }, b -> b.lose(0));
    }

    private static void lay() {
        Edge.of(32, "Item i, treated as of a FORM, becomes v (the lowest bits that it has, with its sign): 1.");
        int[] values = {0, 1, -1, 127, 128, 255, 256, 383, 384, -128, -129, -256, 32767, 32768, 65535, 65536, -32768,
            -32769, 0x12348080, 0x1234ff7f, LEAST, MOST};
        BreathBand x = new BreathBand();
        for (int form = 0; form < 3; form++) {
            int bits = 8 << form;
            long whole = 1L << bits;
            x.sheet(form, form, values.length);
            for (int i = 0; i < values.length; i++) {
                long low = Math.floorMod((long) values[i], whole);
                Edge.is("form " + form + ", lay " + values[i], 1, x.lay(form, form, i, values[i]));
                Edge.is("form " + form + ", of " + values[i], low >= whole / 2 ? low - whole : low, x.get(form, form, i));
            }
        }
        x.sheet(3, 0, 60);
        Edge.is("the first", 1, x.lay(3, 0, 0, 5));
        Edge.is("the last", 1, x.lay(3, 0, 59, 6));
        Edge.is("the first holds it", 5, x.get(3, 0, 0));
        Edge.is("the last holds it", 6, x.get(3, 0, 59));
        Edge.is("the one beside stays", 0, x.get(3, 0, 1));
    }

    private static void layRefusals() {
        Edge.of(32, "BAD;");
        int[][] bad = {{-1, 0, 0}, {4, 0, 0}, {0, -1, 0}, {0, 3, 0}, {3, 3, 0}, {0, 3, -1}, {LEAST, 0, 0}, {MOST, 0, 0},
            {0, LEAST, 0}, {0, MOST, 0}};
        for (int[] r : bad) {
            Edge.refused("lay(" + Due.row(r) + ")", BAD, Edge::busy, b -> b.lay(r[0], r[1], r[2], 1));
        }
        Edge.of(32, "NULL;");
        for (int i : new int[] {-1, 0, 60}) {
            Edge.refused("lay(3, 0, " + i + ")", NULL, Edge::busy, b -> b.lay(3, 0, i, 1));
        }
        Edge.of(32, "CAST;");
        int[][] cast = {{0, 1, 0}, {0, 2, 0}, {1, 0, 0}, {1, 2, 0}, {2, 0, 0}, {2, 1, 0}, {0, 1, -1}, {0, 1, 3}};
        for (int[] r : cast) {
            Edge.refused("lay(" + Due.row(r) + ")", CAST, Edge::busy, b -> b.lay(r[0], r[1], r[2], 1));
        }
        Edge.of(32, "INDEX.");
        int[][] index = {{0, 0, -1}, {0, 0, 3}, {1, 1, 2}, {2, 2, 4}, {2, 2, LEAST}, {2, 2, MOST}};
        for (int[] r : index) {
            Edge.refused("lay(" + Due.row(r) + ")", INDEX, Edge::busy, b -> b.lay(r[0], r[1], r[2], 1));
        }
    }

    private static void get() {
        Edge.of(33, "Item i of it.");
        BreathBand x = new BreathBand();
        Edge.busy(x);
        int[][] rows = {{1, 2, -3}, {300, -300}, {70000, -70000, 5, 6}};
        for (int s = 0; s < 3; s++) {
            for (int i = 0; i < rows[s].length; i++) {
                Edge.is("get(" + Due.row(s, s, i) + ")", rows[s][i], x.get(s, s, i));
            }
        }
        Edge.of(33, "BAD: the least int;");
        int[][] bad = {{-1, 0, 0}, {4, 0, 0}, {0, -1, 0}, {0, 3, 0}, {3, 3, 0}, {LEAST, 0, 0}, {MOST, 0, 0}, {0, LEAST, 0},
            {0, MOST, 0}};
        for (int[] r : bad) {
            Edge.refused("get(" + Due.row(r) + ")", LEAST, 0, Edge::busy, b -> b.get(r[0], r[1], r[2]));
        }
        Edge.of(33, "so are NULL, CAST, INDEX (count() 8 tells).");
        int[][] findings = {{3, 0, 0, 1}, {3, 0, -1, 1}, {0, 1, 0, 3}, {1, 2, 0, 3}, {2, 0, 0, 3}, {0, 1, -1, 3}, {0, 0, -1, 2},
            {0, 0, 3, 2}, {1, 1, 2, 2}, {2, 2, 4, 2}, {2, 2, LEAST, 2}, {2, 2, MOST, 2}};
        for (int[] r : findings) {
            Edge.refused("get(" + Due.row(r) + ")", LEAST, r[3], Edge::busy, b -> b.get(r[0], r[1], r[2]));
        }
        Edge.row(x, 3, 2, LEAST);
        x.sheet(0, 0, -1);
        Edge.is("an item that is the least int", LEAST, x.get(3, 2, 0));
        Edge.is("is no finding", 5, x.count(8));
    }

    private static void isRow(String what, BreathBand x, int s, int form, int... items) {
        for (int i = 0; i < items.length; i++) {
            Edge.is(what + ": item " + i, items[i], x.get(s, form, i));
        }
    }

    private static void copy() {
        Edge.of(34, "n items of SHEET s, from i on, come to SHEET t (perhaps s, as they were), from j on: 1.");
        for (int form = 0; form < 3; form++) {
            BreathBand x = new BreathBand();
            Edge.row(x, 0, form, 1, 2, 3, 4, 5);
            x.sheet(3, form, 5);
            Edge.is("all", 1, x.copy(0, 0, 3, 0, 5));
            isRow("all", x, 3, form, 1, 2, 3, 4, 5);
            Edge.is("onward in itself", 1, x.copy(0, 0, 0, 1, 4));
            isRow("onward, as they were", x, 0, form, 1, 1, 2, 3, 4);
            Edge.is("backward in itself", 1, x.copy(3, 1, 3, 0, 4));
            isRow("backward, as they were", x, 3, form, 2, 3, 4, 5, 5);
            Edge.is("upon itself", 1, x.copy(0, 0, 0, 0, 5));
            isRow("upon itself", x, 0, form, 1, 1, 2, 3, 4);
            Edge.is("the last to the first", 1, x.copy(0, 4, 3, 0, 1));
            isRow("the last to the first", x, 3, form, 4, 3, 4, 5, 5);
            Edge.is("none", 1, x.copy(0, 0, 3, 0, 0));
            Edge.is("none, at both ends", 1, x.copy(0, 5, 3, 5, 0));
            isRow("none", x, 3, form, 4, 3, 4, 5, 5);
            x.sheet(1, form, 0);
            Edge.is("none of none", 1, x.copy(1, 0, 1, 0, 0));
            x.sheet(1, form, 60);
            Edge.is("sixty in itself", 1, x.copy(1, 0, 1, 0, 60));
        }
    }

    private static void copyRefusals() {
        Edge.of(34, "BAD: the SHEETS;");
        int[][] bad = {{-1, 0, 0, 0, 0}, {4, 0, 0, 0, 0}, {0, 0, -1, 0, 0}, {0, 0, 4, 0, 0}, {3, -1, 4, 0, 0}, {-1, 0, 3, 0, -1},
            {LEAST, 0, 0, 0, 0}, {MOST, 0, 0, 0, 0}, {0, 0, LEAST, 0, 0}, {0, 0, MOST, 0, 0}};
        allRefused(BAD, bad);
        Edge.of(34, "NULL: s, t;");
        int[][] lost = {{3, 0, 0, 0, 0}, {0, 0, 3, 0, 0}, {3, 0, 3, 0, 0}, {3, -1, 0, 0, 1}, {0, 0, 3, -1, 1}, {3, 0, 2, 0, -1}};
        allRefused(NULL, lost);
        Edge.of(34, "STORE;");
        int[][] unlike = {{0, 0, 1, 0, 1}, {1, 0, 0, 0, 1}, {0, 0, 2, 0, 1}, {2, 0, 0, 0, 1}, {1, 0, 2, 0, 1}, {2, 0, 1, 0, 1},
            {0, 0, 1, 0, 0}, {0, -1, 1, 0, 1}, {0, 0, 1, 9, 1}, {0, 0, 1, 0, -1}};
        allRefused(STORE, unlike);
    }

    private static void allRefused(int want, int[][] rows) {
        for (int[] r : rows) {
            Edge.refused("copy(" + Due.row(r) + ")", want, Edge::busy, b -> b.copy(r[0], r[1], r[2], r[3], r[4]));
        }
    }

    /** Busy, with a second sheet of bytes, shorter by one. */
    private static void twoOfBytes(BreathBand x) {
        Edge.busy(x);
        Edge.row(x, 3, 0, 8, 9);
    }

    private static void twoRefused(int[][] rows) {
        for (int[] r : rows) {
            Edge.refused("copy(" + Due.row(r) + ")", INDEX, SheetEdges::twoOfBytes, b -> b.copy(r[0], r[1], r[2], r[3], r[4]));
        }
    }

    private static void copyIndexes() {
        Edge.of(34, "INDEX: below 0,");
        twoRefused(new int[][] {{0, -1, 3, 0, 1}, {0, 0, 3, -1, 1}, {0, 0, 3, 0, -1}, {0, -1, 3, 0, 0}, {0, 0, 3, -1, 0},
            {0, LEAST, 3, 0, 1}, {0, 0, 3, LEAST, 1}, {0, 0, 3, 0, LEAST}, {0, -1, 0, 0, 2}, {0, LEAST, 3, LEAST, LEAST}});
        Edge.of(34, "not so many");
        twoRefused(new int[][] {{0, 0, 3, 0, 3}, {3, 0, 0, 0, 3}, {0, 2, 3, 0, 2}, {0, 0, 3, 1, 2}, {0, 0, 0, 1, 3}, {0, 1, 0, 0, 3},
            {0, 3, 3, 0, 1}, {0, 0, 3, 2, 1}, {0, MOST, 3, 0, 1}, {0, 0, 3, MOST, 1}, {0, 0, 3, 0, MOST}, {0, MOST, 3, MOST, MOST},
            {0, 1, 3, 1, MOST}});
        Edge.of(34, "(with n 0, too, if i or j is above how many there are).");
        twoRefused(new int[][] {{0, 4, 3, 0, 0}, {0, 0, 3, 3, 0}, {0, MOST, 3, 0, 0}, {0, 0, 3, MOST, 0}, {0, 4, 0, 0, 0}});
        BreathBand x = new BreathBand();
        twoOfBytes(x);
        Edge.is("just as many: copy(0, 3, 3, 2, 0)", 1, x.copy(0, 3, 3, 2, 0));
    }

    private static void write() {
        Edge.of(35, "How much THE BAG holds behind BEATS 0 on comes to a SHEET");
        // 40 less 1 and 3, one after the other, along two seats
        BreathBand x = Due.band("h1;h1", "");
        Edge.row(x, 0, 2, 9, 9, 9, 9);
        Edge.is("write(0)", 4, x.write(0));
        isRow("four", x, 0, 2, 39, 36, 35, 32);
        Edge.of(35, "(of each the lowest bits that an item has, with its sign)");
        BreathBand most = new BreathBand();
        most.bag(99);
        for (int form = 0; form < 3; form++) {
            most.sheet(form, form, 24);
            Edge.is("form " + form + ": write", 24, most.write(form));
            Edge.is("form " + form + ": the first of 99", 99, most.get(form, form, 0));
            Edge.is("form " + form + ": the last of 99", 99, most.get(form, form, 23));
        }
        Edge.of(35, "from item 0 on, as many as there are items, 24 at most: how many.");
        for (int n : new int[] {0, 1, 23, 24, 25, 60}) {
            most.sheet(3, 1, n);
            if (n > 24) {
                most.lay(3, 1, 24, 7);
            }
            Edge.is(n + " items: write(3)", Math.min(n, 24), most.write(3));
            for (int i = Math.max(0, n - 3); i < n; i++) {
                Edge.is(n + " items: item " + i, i < 24 ? 99 : i == 24 ? 7 : 0, most.get(3, 1, i));
            }
        }
        Edge.of(35, "BAD;");
        for (int s : new int[] {-1, 4, LEAST, MOST}) {
            Edge.refused("write(" + s + ")", BAD, Edge::busy, b -> b.write(s));
        }
        Edge.of(35, "NULL.");
        Edge.refused("write(3)", NULL, Edge::busy, b -> b.write(3));
    }
}

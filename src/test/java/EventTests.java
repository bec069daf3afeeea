/** Promises 8 to 11: bag, event, back, read. */
public final class EventTests {
    public static void main(String[] args) {
        bags();
        events();
        backs();
        reads();
        readsThatEndEarly();
        Due.end();
    }

    private static void bags() {
        BreathBand x = new BreathBand();
        Due.due("bag(1)", 40, x.bag(1));
        Due.due("bag(99)", 1, x.bag(99));
        Due.due("bag(0)", BreathBand.BAD, x.bag(0));
        Due.due("bag(100)", BreathBand.BAD, x.bag(100));
        Due.due("bag(-1)", BreathBand.BAD, x.bag(-1));
        Due.due("bag(50)", 99, x.bag(50));
        Due.due("count(5)", 50, x.count(5));
        Due.due("at(0, 1)", 50, x.at(0, 1));
    }

    private static void events() {
        BreathBand x = Due.band("h0;h0", "");
        Due.due("event(0, 0)", 1, x.event(0, 0));
        Due.due("event(2, 23)", 2, x.event(2, 23));
        int[][] bad = {{-1, 0}, {3, 0}, {0, -1}, {0, 24}};
        for (int[] row : bad) {
            Due.due("event(" + Due.row(row) + ")", BreathBand.BAD, x.event(row[0], row[1]));
        }
        Due.due("count(4)", 2, x.count(4));
        for (int i = 3; i <= 8; i++) {
            Due.due("event(1, " + i + ")", i, x.event(1, i));
        }
        Due.due("a ninth", BreathBand.FULL, x.event(1, 0));
        Due.due("BAD ahead of FULL", BreathBand.BAD, x.event(3, 0));
        Due.due("count(4), full", 8, x.count(4));
        Due.due("the theft is there", 37, x.at(0, 1));
        Due.due("the bag is kept", x.at(22, 0), x.at(23, 0));
    }

    private static void backs() {
        BreathBand x = new BreathBand();
        Due.due("back()", BreathBand.NOT, x.back());
        x.event(0, 0);
        x.event(0, 5);
        Due.due("two thefts", 34, x.at(23, 1));
        Due.due("back()", 1, x.back());
        Due.due("one theft", 37, x.at(23, 1));
        Due.due("back()", 0, x.back());
        Due.due("no theft", 40, x.at(23, 1));
        Due.due("back()", BreathBand.NOT, x.back());
    }

    private static void reads() {
        BreathBand x = new BreathBand();
        Due.due("read(-1)", BreathBand.BAD, x.read(-1));
        Due.due("read(4)", BreathBand.BAD, x.read(4));
        Due.due("read(0), lost", -11, x.read(0));
        Due.due("count(8)", 1, x.count(8));
        sheetOf(x, 0, 2, 0, 3, 2, 7, 1);
        Due.due("read(0), five items", 2, x.read(0));
        Due.due("count(4)", 2, x.count(4));
        Due.due("the theft of beat 3", 37, x.at(3, 1));
        Due.due("not ahead of it", 40, x.at(2, 1));
        Due.due("read(0) once more", 2, x.read(0));
        Due.due("both thefts", 34, x.at(3, 1));
        sheetOf(x, 1, 0, 0, 23);
        Due.due("read(1), bytes", 1, x.read(1));
        sheetOf(x, 1, 1, 1);
        Due.due("read(1), one item", 0, x.read(1));
        x.sheet(1, 0, 0);
        Due.due("read(1), no items", 0, x.read(1));
        Due.due("count(4)", 5, x.count(4));
    }

    private static void readsThatEndEarly() {
        BreathBand x = new BreathBand();
        sheetOf(x, 0, 2, 0, 0, 3, 0, 0, 0);
        Due.due("no such kind ends it", 1, x.read(0));
        sheetOf(x, 0, 2, 0, 1, 0, 24, 0, 2);
        Due.due("no such beat ends it", 1, x.read(0));
        sheetOf(x, 0, 2, -1, 1, 0, 2);
        Due.due("a kind below 0 ends it", 0, x.read(0));
        sheetOf(x, 0, 1, 0, -1, 0, 2);
        Due.due("a beat below 0 ends it", 0, x.read(0));
        Due.due("count(4)", 2, x.count(4));
        x.sheet(0, 0, 60);
        Due.due("as long as there is room", 6, x.read(0));
        Due.due("count(4)", 8, x.count(4));
        Due.due("no room", 0, x.read(0));
        Due.due("FULL is no finding", 0, x.count(8));
    }

    private static void sheetOf(BreathBand x, int s, int form, int... items) {
        x.sheet(s, form, items.length);
        for (int i = 0; i < items.length; i++) {
            x.lay(s, form, i, items[i]);
        }
    }
}

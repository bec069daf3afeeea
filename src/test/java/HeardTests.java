/** Promises 23 to 27: hear, forget, never, was, ask. */
public final class HeardTests {
    public static void main(String[] args) {
        hearing();
        nevers();
        wastes();
        sorts();
        asks();
        refusals();
        notesThatAreNot();
        Due.end();
    }

    private static void hearing() {
        BreathBand x = new BreathBand();
        int[][] bad = {{-1, 0}, {16, 0}, {0, -1}, {0, 3}};
        for (int[] row : bad) {
            Due.due("hear(" + Due.row(row) + ")", BreathBand.BAD, x.hear(row[0], row[1]));
        }
        Due.due("forget() of none", 0, x.forget());
        for (int k = 1; k <= 8; k++) {
            Due.due("hear(15, 2)", k, x.hear(15, 2));
            Due.due("count(7)", k, x.count(7));
        }
        Due.due("a ninth", BreathBand.FULL, x.hear(0, 0));
        Due.due("BAD ahead of FULL", BreathBand.BAD, x.hear(16, 0));
        Due.due("forget()", 8, x.forget());
        Due.due("count(7)", 0, x.count(7));
        Due.due("hear(0, 0)", 1, x.hear(0, 0));
    }

    private static BreathBand robbed() {
        BreathBand x = Due.band("t0", "aa");
        x.bag(6);
        x.event(1, 1);
        x.event(0, 0);
        return x;
    }

    private static void nevers() {
        BreathBand x = robbed();
        Due.due("nothing heard: all", 3, x.never());
        x.hear(0, 0);
        Due.due("missed: never()", 1, x.never());
        x.forget();
        x.hear(0, 1);
        Due.due("hummed: never()", 2, x.never());
        x.hear(0, 0);
        Due.due("both: never()", 0, x.never());
        x.forget();
        x.hear(0, 2);
        Due.due("played: never()", 0, x.never());
        x.bag(15);
        Due.due("played, with more: never()", 3, x.never());
        x.bag(14);
        Due.due("played, but for the theft: never()", 2, x.never());
        Due.due("no events: never()", 0, new BreathBand().never());
        BreathBand two = robbed();
        two.event(0, 0);
        two.hear(0, 1);
        Due.due("either alone is not enough", 0, two.never());
        BreathBand eight = Due.band("h0", "");
        for (int e = 0; e < 8; e++) {
            eight.event(0, e);
        }
        Due.due("eight: never()", 255, eight.never());
    }

    private static BreathBand leaking() {
        BreathBand x = Due.band("h2;h0", "aa;bb");
        x.bag(13);
        return x;
    }

    private static void wastes() {
        // behind the first note 12, less what the first lets go, less 1 for the second note
        BreathBand x = leaking();
        Due.due("nothing heard: was(0, 0)", 15, x.was(0, 0));
        x.hear(1, 2);
        Due.due("played: was(0, 0)", 3, x.was(0, 0));
        Due.due("played: was(1, 0): not by the other", 0, x.was(1, 0));
        x.forget();
        x.hear(1, 1);
        Due.due("hummed: was(0, 0)", 12, x.was(0, 0));
        Due.due("hummed: was(1, 0)", 15, x.was(1, 0));
        x.hear(0, 0);
        Due.due("and the first missed: was(0, 0)", 0, x.was(0, 0));
        x.forget();
        x.hear(1, 0);
        x.bag(5);
        Due.due("missed: was(0, 0)", 8, x.was(0, 0));
        Due.due("what is told stays: player(0, 1)", 2, x.player(0, 1));
        Due.due("what is told stays: at(0, 2)", 2, x.at(0, 2));
    }

    private static void sorts() {
        BreathBand x = Due.band("t0;h0", "aa;ab");
        x.bag(3);
        Due.due("nothing heard: was(0, 1)", 7, x.was(0, 1));
        x.hear(0, 1);
        Due.due("hummed: was(0, 1)", 6, x.was(0, 1));
        Due.due("hummed: was(1, 1)", 0, x.was(1, 1));
        x.forget();
        x.hear(0, 0);
        Due.due("missed: was(0, 1)", 1, x.was(0, 1));
        Due.due("missed: was(1, 1)", 7, x.was(1, 1));
        x.hear(1, 1);
        Due.due("heard from a seat away: was(1, 1)", 4, x.was(1, 1));
        Due.due("what is told stays: player(1, 0)", 1, x.player(1, 0));
    }

    private static void asks() {
        Due.due("no notes: ask(0)", BreathBand.NONE, Due.band("h0", "").ask(0));
        BreathBand x = leaking();
        Due.due("two and two: ask(0)", 1, x.ask(0));
        Due.due("all alike: ask(1)", 0, x.ask(1));
        x.hear(1, 2);
        Due.due("two are left, all alike: ask(0)", 0, x.ask(0));
        x.hear(1, 0);
        Due.due("none are left: ask(0)", 0, x.ask(0));
        // of 0 to 3: PPPP, PPPH, PHHM, HHMM
        BreathBand y = Due.band("h0", "aa;ca;ea;fa");
        y.bag(21);
        Due.due("ask(0)", 2, y.ask(0));
        y.hear(2, 1);
        Due.due("was(0, 0)", 6, y.was(0, 0));
        Due.due("one and one: ask(0)", 3, y.ask(0));
        Due.due("what is told stays: player(0, 1)", 0, y.player(0, 1));
    }

    private static void refusals() {
        BreathBand x = leaking();
        Due.due("was(-1, 0)", BreathBand.BAD, x.was(-1, 0));
        Due.due("was(2, 0)", BreathBand.BAD, x.was(2, 0));
        Due.due("was(0, -1)", BreathBand.BAD, x.was(0, -1));
        Due.due("was(0, 2)", BreathBand.BAD, x.was(0, 2));
        Due.due("ask(-1)", BreathBand.BAD, x.ask(-1));
        Due.due("ask(2)", BreathBand.BAD, x.ask(2));
        Due.due("no players: ask(0)", BreathBand.BAD, new BreathBand().ask(0));
    }

    private static void notesThatAreNot() {
        BreathBand x = robbed();
        x.hear(1, 0);
        Due.due("no such note: never()", 0, x.never());
        Due.due("no such note: was(0, 0)", 0, x.was(0, 0));
        Due.due("no such note: was(0, 1)", 0, x.was(0, 1));
        Due.tell(x, 1, ";ab");
        Due.due("a note of nobody is missed: never()", 3, x.never());
        Due.due("a note of nobody is missed: was(0, 0)", 15, x.was(0, 0));
        x.wipe(1);
        Due.due("gone again: never()", 0, x.never());
        Due.due("gone again: ask(0)", BreathBand.NONE, x.ask(0));
    }
}

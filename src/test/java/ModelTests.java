import java.util.Random;

/** Long runs of calls drawn by lot, of all promises, each answer compared with the model's. */
public final class ModelTests {
    private static final int RUNS = 260;
    private static final int CALLS = 512;

    private final Random lot;
    private final BreathBand x = new BreathBand();
    private final Model m = new Model();
    private final String run;
    private final int tidy;
    private int calls = 0;

    private ModelTests(int seed) {
        lot = new Random(seed);
        run = "run " + seed + ", call ";
        tidy = seed % 4;
    }

    public static void main(String[] args) {
        for (int seed = 0; seed < RUNS && Due.wrong() < 20; seed++) {
            new ModelTests(seed).go();
        }
        Due.end();
    }

    private void go() {
        if (tidy > 0) {
            tellTexts();
        }
        while (calls < CALLS - 1 && Due.wrong() < 20) {
            if (tidy > 0 && calls < CALLS - 100 && lot.nextInt(60) == 0) {
                tellTexts();
            }
            oneCall(lot.nextInt(48));
        }
        // the model's own takes long
        if (tidy == 2) {
            same("digest()", m.digest(), x.digest());
        }
    }

    /** Whole texts, as bytes drawn one by one are hardly ever well. */
    private void tellTexts() {
        wipe(0);
        wipe(1);
        int players = lot.nextInt(tidy == 1 ? 4 : 12);
        for (int p = 0; p < players; p++) {
            type(0, "thc".charAt(lot.nextInt(3)));
            type(0, '0' + lot.nextInt(4));
            if (p + 1 < players) {
                type(0, ';');
            }
        }
        int notes = lot.nextInt(17);
        for (int i = 0; i < notes; i++) {
            int beat = lot.nextInt(lot.nextBoolean() ? 24 : 6);
            type(1, 'a' + beat);
            // mostly who has the bag then
            type(1, 'a' + (players == 0 || lot.nextInt(3) == 0 ? lot.nextInt(11) : beat % players));
            if (i + 1 < notes) {
                type(1, ';');
            }
        }
        bag(1 + lot.nextInt(99));
    }

    private int near(int least, int most) {
        int v = lot.nextInt(40);
        if (v == 0) {
            return least - 1;
        }
        if (v == 1) {
            return most + 1;
        }
        if (v == 2) {
            return lot.nextInt();
        }
        return least + lot.nextInt(most - least + 1);
    }

    private int someone() {
        int players = m.count(0);
        return near(0, players == 0 ? 1 : players - 1);
    }

    private int someNote() {
        int notes = m.count(1);
        return near(0, notes == 0 ? 1 : notes - 1);
    }

    private void same(String what, long want, long got) {
        Due.due(run + calls + ": " + what, want, got);
        calls++;
    }

    private void type(int text, int b) {
        same("type(" + text + ", " + b + ")", m.type(text, b), x.type(text, b));
    }

    private void wipe(int text) {
        same("wipe(" + text + ")", m.wipe(text), x.wipe(text));
    }

    private void bag(int v) {
        same("bag(" + v + ")", m.bag(v), x.bag(v));
    }

    private void oneCall(int which) {
        if (which < 12) {
            tell(which);
        } else if (which < 20) {
            askBeats(which);
        } else if (which < 35) {
            askPlans(which);
        } else {
            useSheets(which);
        }
    }

    private void tell(int which) {
        int a = near(0, 1);
        switch (which) {
            case 0: type(a, "thc0123abxk;;".charAt(lot.nextInt(13))); break;
            case 1: type(a, near(0, 255)); break;
            case 2: same("undo(" + a + ")", m.undo(a), x.undo(a)); break;
            case 3: if (tidy == 0 || lot.nextInt(9) == 0) { wipe(a); } break;
            case 4: same("fault(" + a + ")", m.fault(a), x.fault(a)); break;
            case 5: { int p = someone(); same("player", m.player(p, a), x.player(p, a)); break; }
            case 6: { int i = near(0, 15); same("note", m.note(i, a), x.note(i, a)); break; }
            case 7: bag(near(1, 99)); break;
            case 8: case 9: {
                int kind = near(0, 2);
                int beat = near(0, lot.nextBoolean() ? 5 : 23);
                same("event(" + kind + ", " + beat + ")", m.event(kind, beat), x.event(kind, beat));
                break;
            }
            case 10: if (lot.nextBoolean()) { same("back()", m.back(), x.back()); } break;
            default: { int s = near(0, 3); same("read(" + s + ")", m.read(s), x.read(s)); break; }
        }
    }

    private void askBeats(int which) {
        int c = near(0, 2);
        switch (which) {
            case 12: case 13: { int b = near(0, 23); same("at(" + b + ", " + c + ")", m.at(b, c), x.at(b, c)); break; }
            case 14: { int i = someNote(); same("heard(" + i + ")", m.heard(i), x.heard(i)); break; }
            case 15: { int p = someone(); same("takes(" + p + ", " + c + ")", m.takes(p, c), x.takes(p, c)); break; }
            case 16: same("sum(" + c + ")", m.sum(c), x.sum(c)); break;
            case 17: same("flat()", m.flat(), x.flat()); break;
            case 18: same("silent()", m.silent(), x.silent()); break;
            default: same("greedy()", m.greedy(), x.greedy()); break;
        }
    }

    private void askPlans(int which) {
        int a = near(0, 1);
        int c = near(0, 2);
        int p = someone();
        switch (which) {
            case 20: same("fill(" + a + ")", m.fill(a), x.fill(a)); break;
            case 21: same("swap(" + c + ")", m.swap(c), x.swap(c)); break;
            case 22: same("hold(" + a + ")", m.hold(a), x.hold(a)); break;
            case 23: case 24: { int i = near(-1, 1); same("spare(" + i + ")", m.spare(i), x.spare(i)); break; }
            case 25: case 26: hear(); break;
            case 27: if (lot.nextBoolean()) { same("forget()", m.forget(), x.forget()); } break;
            case 28: same("never()", m.never(), x.never()); break;
            case 29: case 30: same("was(" + p + ", " + a + ")", m.was(p, a), x.was(p, a)); break;
            case 31: case 32: same("ask(" + p + ")", m.ask(p), x.ask(p)); break;
            case 33: {
                int sixteenths = near(0, 16);
                int i = someNote();
                same("chance", m.chance(sixteenths, i, a), x.chance(sixteenths, i, a));
                break;
            }
            default: {
                int seed = lot.nextInt();
                int n = near(0, 16);
                same("years(" + seed + ", " + n + ", " + a + ")", m.years(seed, n, a), x.years(seed, n, a));
                break;
            }
        }
    }

    /** Mostly what is so, as otherwise nothing would ever fit. */
    private void hear() {
        int i = lot.nextInt(4) == 0 ? near(0, 15) : someNote();
        int is = m.heard(i);
        if (is < 0 || lot.nextInt(4) == 0) {
            is = near(0, 2);
        }
        same("hear(" + i + ", " + is + ")", m.hear(i, is), x.hear(i, is));
    }

    private void useSheets(int which) {
        int s = near(0, 3);
        int form = near(0, 2);
        int i = near(0, lot.nextBoolean() ? 8 : 60);
        switch (which) {
            case 35: same("sheet", m.sheet(s, form, i), x.sheet(s, form, i)); break;
            case 36: if (lot.nextInt(4) == 0) { same("lose(" + s + ")", m.lose(s), x.lose(s)); } break;
            case 37: case 38: { int v = lot.nextInt(); same("lay", m.lay(s, form, i, v), x.lay(s, form, i, v)); break; }
            case 39: case 40: { int v = near(0, 3); same("lay", m.lay(s, form, i, v), x.lay(s, form, i, v)); break; }
            case 41: case 42: same("get(" + Due.row(s, form, i) + ")", m.get(s, form, i), x.get(s, form, i)); break;
            case 43: case 44: {
                int t = near(0, 3);
                int j = near(0, 8);
                int n = near(0, 8);
                same("copy(" + Due.row(s, i, t, j, n) + ")", m.copy(s, i, t, j, n), x.copy(s, i, t, j, n));
                break;
            }
            case 45: same("write(" + s + ")", m.write(s), x.write(s)); break;
            default: { int what = near(0, 8); same("count(" + what + ")", m.count(what), x.count(what)); break; }
        }
    }
}

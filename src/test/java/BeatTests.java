/** Promises 12 to 18: at, heard, takes, sum, flat, silent, greedy. */
public final class BeatTests {
    public static void main(String[] args) {
        threePlayers();
        refusals();
        needs();
        hums();
        cornets();
        orderOfNotes();
        notesOfNobody();
        thefts();
        frosts();
        keepings();
        onePlayerAlone();
        noPlayers();
        silence();
        greed();
        Due.end();
    }

    private static void threePlayers() {
        BreathBand x = Due.band("t1;h0;c2", "aa;bb;cc;cb;ca;dc");
        int[] held = {37, 36, 31, 30, 30, 26, 25, 25, 21, 20, 20, 16, 15, 15, 11, 10, 10, 6, 5, 5, 1, 0, 0, 0};
        int[] lost = {1, 0, 4, 1, 0, 4, 1, 0, 4, 1, 0, 4, 1, 0, 4, 1, 0, 4, 1, 0, 4, 1, 0, 0};
        for (int beat = 0; beat < 24; beat++) {
            Due.due("at(" + beat + ", 0)", (beat + 1) % 3, x.at(beat, 0));
            Due.due("at(" + beat + ", 1)", held[beat], x.at(beat, 1));
            Due.due("at(" + beat + ", 2)", lost[beat], x.at(beat, 2));
        }
        int[] heard = {2, 2, 2, 0, 0, 0};
        for (int i = 0; i < heard.length; i++) {
            Due.due("heard(" + i + ")", heard[i], x.heard(i));
        }
        int[][] takes = {{1, 2, 8}, {1, 1, 0}, {1, 1, 28}};
        for (int p = 0; p < 3; p++) {
            for (int what = 0; what < 3; what++) {
                Due.due("takes(" + p + ", " + what + ")", takes[p][what], x.takes(p, what));
            }
        }
        Due.due("sum(0)", 3, x.sum(0));
        Due.due("sum(1)", 36, x.sum(1));
        Due.due("sum(2)", 0, x.sum(2));
        Due.due("flat()", 21, x.flat());
        Due.due("silent()", 0, x.silent());
        Due.due("greedy()", 0, x.greedy());
    }

    private static void refusals() {
        BreathBand x = Due.band("t1;h0", "aa");
        Due.due("at(-1, 0)", BreathBand.BAD, x.at(-1, 0));
        Due.due("at(24, 0)", BreathBand.BAD, x.at(24, 0));
        Due.due("at(0, -1)", BreathBand.BAD, x.at(0, -1));
        Due.due("at(0, 3)", BreathBand.BAD, x.at(0, 3));
        Due.due("heard(-1)", BreathBand.BAD, x.heard(-1));
        Due.due("heard(1)", BreathBand.BAD, x.heard(1));
        Due.due("takes(-1, 0)", BreathBand.BAD, x.takes(-1, 0));
        Due.due("takes(2, 0)", BreathBand.BAD, x.takes(2, 0));
        Due.due("takes(0, -1)", BreathBand.BAD, x.takes(0, -1));
        Due.due("takes(0, 3)", BreathBand.BAD, x.takes(0, 3));
        Due.due("sum(-1)", BreathBand.BAD, x.sum(-1));
        Due.due("sum(3)", BreathBand.BAD, x.sum(3));
    }

    private static void needs() {
        String[] players = {"t0", "h0", "c0"};
        int[] need = {4, 2, 1};
        int[] taken = {2, 1, 1};
        for (int sort = 0; sort < 3; sort++) {
            BreathBand x = Due.band(players[sort], "aa");
            x.event(2, 0);
            x.bag(need[sort]);
            Due.due(players[sort] + " has as much as it needs", 1, x.heard(0));
            Due.due(players[sort] + ": half comes back", need[sort] - taken[sort], x.at(0, 1));
            Due.due(players[sort] + " takes", taken[sort], x.takes(0, 1));
            if (need[sort] > 1) {
                x.bag(need[sort] - 1);
            } else {
                x.event(0, 0);
            }
            Due.due(players[sort] + " has less than it needs", 0, x.heard(0));
            Due.due(players[sort] + " takes nothing", 0, x.takes(0, 1));
        }
    }

    private static void hums() {
        String[] players = {"t0", "h0", "c0"};
        int[] least = {12, 11, 11};
        for (int sort = 0; sort < 3; sort++) {
            BreathBand x = Due.band(players[sort], "aa");
            x.bag(least[sort]);
            Due.due(players[sort] + " with 10 behind it", 2, x.heard(0));
            x.bag(least[sort] - 1);
            Due.due(players[sort] + " with 9 behind it", 1, x.heard(0));
            Due.due(players[sort] + ": a hum sounds", 1, x.sum(0));
        }
    }

    private static void cornets() {
        // beats a to d: the bag is in seats 0 to 3
        BreathBand x = Due.band("c0;c0;h0;c0", "aa;ab;ac;ad;ba;bb;bc;bd;ca;cb;cc;cd;da;db;dc;dd");
        int[] sounds = {1, 1, 0, 0, 1, 1, 0, 0, 0, 1, 1, 1, 0, 0, 0, 1};
        for (int i = 0; i < sounds.length; i++) {
            Due.due("cornets: heard(" + i + ")", sounds[i], x.heard(i) == 0 ? 0 : 1);
        }
    }

    private static void orderOfNotes() {
        BreathBand x = Due.band("t0;c0", "aa;ab");
        x.bag(4);
        Due.due("tuba ahead: heard(0)", 1, x.heard(0));
        Due.due("tuba ahead: heard(1)", 1, x.heard(1));
        BreathBand y = Due.band("t0;c0", "ab;aa");
        y.bag(4);
        Due.due("cornet ahead: heard(0)", 1, y.heard(0));
        Due.due("cornet ahead: heard(1)", 0, y.heard(1));
        BreathBand z = Due.band("h0;h0", "ca;bb;aa");
        Due.due("told from the last beat on", 3, z.sum(0));
        Due.due("told from the last beat on: at(0, 1)", 39, z.at(0, 1));
        BreathBand twice = Due.band("c0", "aa;aa;aa");
        twice.event(2, 0);
        twice.bag(2);
        Due.due("as long as there is breath: sum(0)", 2, twice.sum(0));
        Due.due("as long as there is breath: heard(2)", 0, twice.heard(2));
    }

    private static void notesOfNobody() {
        BreathBand x = Due.band("h0;h0", "aa;ac;ck;bb");
        int[] heard = {2, 0, 0, 2};
        for (int i = 0; i < heard.length; i++) {
            Due.due("nobody: heard(" + i + ")", heard[i], x.heard(i));
        }
        Due.due("nobody: sum(0)", 2, x.sum(0));
        Due.due("nobody: takes(1, 0)", 1, x.takes(1, 0));
        Due.due("nobody: at(1, 1)", 36, x.at(1, 1));
    }

    private static void thefts() {
        BreathBand x = Due.band("t0;h0", "aa;bb");
        x.bag(7);
        x.event(0, 0);
        Due.due("4 left behind a theft", 1, x.heard(0));
        x.bag(6);
        Due.due("3 left behind a theft", 0, x.heard(0));
        x.event(0, 0);
        x.event(0, 1);
        Due.due("sum(2): no more than there is", 6, x.sum(2));
        Due.due("flat by thefts", 0, x.flat());
        x.bag(7);
        Due.due("sum(2): the last one takes 1", 7, x.sum(2));
        Due.due("behind two thefts", 1, x.at(0, 1));
        Due.due("a theft is no leak", 0, x.sum(1));
        Due.due("nor lost by passing", 0, x.at(0, 2));
    }

    private static void frosts() {
        BreathBand x = Due.band("h1;h2", "");
        x.event(1, 0);
        x.event(1, 1);
        x.event(1, 1);
        Due.due("frost: at(0, 2)", 2, x.at(0, 2));
        Due.due("frost round the corner, once twice: at(1, 2)", 8, x.at(1, 2));
        Due.due("no frost: at(2, 2)", 1, x.at(2, 2));
        Due.due("no frost: at(3, 2)", 4, x.at(3, 2));
        x.bag(5);
        Due.due("no more than there is: at(1, 2)", 3, x.at(1, 2));
        Due.due("sum(1)", 5, x.sum(1));
        Due.due("takes(0, 2)", 2, x.takes(0, 2));
        Due.due("takes(1, 2)", 3, x.takes(1, 2));
        Due.due("flat()", 1, x.flat());
    }

    private static void keepings() {
        BreathBand x = Due.band("h1;h2", "aa;ba;ca");
        x.event(2, 0);
        x.event(1, 0);
        x.event(2, 0);
        Due.due("kept: at(0, 0)", 0, x.at(0, 0));
        Due.due("kept: at(0, 2)", 0, x.at(0, 2));
        Due.due("kept: at(0, 1)", 39, x.at(0, 1));
        Due.due("kept: heard(1)", 2, x.heard(1));
        Due.due("passed: at(1, 0)", 1, x.at(1, 0));
        Due.due("passed: at(1, 1)", 37, x.at(1, 1));
        Due.due("passed: heard(2)", 0, x.heard(2));
        x.event(2, 23);
        Due.due("kept on the last beat", x.at(22, 0), x.at(23, 0));
        Due.due("kept on the last beat", 0, x.at(23, 2));
    }

    private static void onePlayerAlone() {
        BreathBand x = Due.band("h1", "aa;ba");
        Due.due("alone: at(0, 0)", 0, x.at(0, 0));
        Due.due("alone: at(0, 2)", 3, x.at(0, 2));
        Due.due("alone: at(0, 1)", 36, x.at(0, 1));
        Due.due("alone: heard(1)", 2, x.heard(1));
        Due.due("alone: takes(0, 2)", 38, x.takes(0, 2));
        x.event(1, 0);
        Due.due("alone in frost: at(0, 2)", 6, x.at(0, 2));
    }

    private static void noPlayers() {
        BreathBand x = Due.band("", "aa;bb");
        x.event(1, 0);
        Due.due("none: at(0, 0)", 0, x.at(0, 0));
        Due.due("none: at(23, 1)", 40, x.at(23, 1));
        Due.due("none: at(0, 2)", 0, x.at(0, 2));
        Due.due("none: heard(0)", 0, x.heard(0));
        Due.due("none: sum(0)", 0, x.sum(0));
        Due.due("none: flat()", BreathBand.NONE, x.flat());
        Due.due("none: silent()", 0, x.silent());
        Due.due("none: greedy()", BreathBand.NONE, x.greedy());
        // only the passing on says that it stays as it is: a theft is a theft
        x.event(0, 5);
        Due.due("none, a theft: at(4, 1)", 40, x.at(4, 1));
        Due.due("none, a theft: at(5, 1)", 37, x.at(5, 1));
        Due.due("none, a theft: sum(2)", 3, x.sum(2));
        x.bag(3);
        Due.due("none, a theft: flat()", 5, x.flat());
    }

    private static void silence() {
        BreathBand x = Due.band("h0;h0;c0;t0;h0;h0;h0;h0;h0;h0;h0", "aa;ab;bb;kk");
        Due.due("silent()", 0b01111111100, x.silent());
        x.wipe(1);
        Due.due("silent(), no notes", 0b11111111111, x.silent());
        Due.due("greedy(), no notes", BreathBand.NONE, x.greedy());
    }

    private static void greed() {
        BreathBand x = Due.band("h0;t0", "aa;aa;bb");
        Due.due("alike, the least", 0, x.greedy());
        x = Due.band("h0;t0", "aa;bb");
        Due.due("who takes most", 1, x.greedy());
        Due.due("how much", 2, x.takes(1, 1));
        x = Due.band("h0;t0", "aa;aa;aa;bb");
        Due.due("not who plays the loudest", 0, x.greedy());
        Due.due("how much", 3, x.takes(0, 1));
        Due.due("how many", 3, x.takes(0, 0));
    }
}

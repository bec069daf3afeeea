import java.math.BigInteger;
import java.util.ArrayList;
import java.util.Arrays;
import java.util.List;
import java.util.regex.Matcher;
import java.util.regex.Pattern;

/** The document once more, in another and slower way that remembers nothing it has worked out, to compare with. */
final class Model {
    static final int NONE = -1, BAD = -2, NOT = -3, FULL = -4;

    private static final Pattern[] GRAMMAR = {
        Pattern.compile("([thc][0-3](;[thc][0-3]){0,10})?"),
        Pattern.compile("([a-x][a-k](;[a-x][a-k]){0,15})?")};
    private static final int[] ROOM = {32, 47};

    private final String[] texts = {"", ""};
    private int bag = 40;
    private final List<int[]> events = new ArrayList<>();
    private final List<int[]> heard = new ArrayList<>();
    private final int[][] sheets = new int[4][];
    private final int[] forms = new int[4];
    private int finding = 0;

    /** One way it may go: what is told, with something else in its place. */
    private static final class Way {
        String players;
        List<int[]> notes = new ArrayList<>();
        List<int[]> events = new ArrayList<>();
        List<Integer> row = new ArrayList<>();
        int bag;

        int players() {
            return (players.length() + 1) / 3;
        }

        char sort(int p) {
            return players.charAt(3 * p);
        }

        int lets(int p) {
            return players.charAt(3 * p + 1) - '0';
        }

        void put(int place, char c) {
            players = players.substring(0, place) + c + players.substring(place + 1);
        }
    }

    private static final class Outcome {
        int[][] at = new int[24][3];
        int[] is;
        int[][] takes;
        int stolen;
        int leaks;
        int missedOfThose;

        int sounds() {
            int many = 0;
            for (int one : is) {
                many += one > 0 ? 1 : 0;
            }
            return many;
        }
    }

    private String well(int text) {
        return GRAMMAR[text].matcher(texts[text]).matches() ? texts[text] : "";
    }

    private Way told() {
        Way w = new Way();
        w.players = well(0);
        for (int p = 0; p < w.players(); p++) {
            w.row.add(p);
        }
        for (String note : well(1).split(";")) {
            if (!note.isEmpty()) {
                w.notes.add(new int[] {note.charAt(0) - 'a', note.charAt(1) - 'a'});
            }
        }
        w.events.addAll(events);
        w.bag = bag;
        return w;
    }

    private static Outcome go(Way w) {
        Outcome o = new Outcome();
        o.is = new int[w.notes.size()];
        o.takes = new int[w.players()][3];
        int seat = 0;
        int bag = w.bag;
        for (int beat = 0; beat < 24; beat++) {
            boolean frost = false;
            boolean kept = false;
            for (int[] e : w.events) {
                if (e[1] == beat && e[0] == 0) {
                    int less = Math.max(0, bag - 3);
                    o.stolen += bag - less;
                    bag = less;
                }
                frost |= e[1] == beat && e[0] == 1;
                kept |= e[1] == beat && e[0] == 2;
            }
            for (int i = 0; i < w.notes.size(); i++) {
                if (w.notes.get(i)[0] == beat && w.notes.get(i)[1] < w.players()) {
                    bag = soundIn(w, o, i, seat, bag);
                }
            }
            if (!kept && w.players() > 0) {
                int who = w.row.get(seat);
                int goes = w.lets(who);
                int next = (seat + 1) % w.players();
                goes += next == 0 ? 2 : 0;
                goes *= frost ? 2 : 1;
                int less = Math.max(0, bag - goes);
                o.at[beat][2] = bag - less;
                o.leaks += bag - less;
                o.takes[who][2] += bag - less;
                bag = less;
                seat = next;
            }
            o.at[beat][0] = seat;
            o.at[beat][1] = bag;
        }
        return o;
    }

    private static int soundIn(Way w, Outcome o, int i, int seat, int bag) {
        int who = w.notes.get(i)[1];
        int own = w.row.indexOf(who);
        boolean cornet = w.sort(who) == 'c';
        boolean there = seat == own || cornet && (seat == own - 1 || seat == own + 1);
        int needs = cornet ? 1 : w.sort(who) == 'h' ? 2 : 4;
        if (!there || bag < needs) {
            o.missedOfThose++;
            return bag;
        }
        int left = bag - needs + needs / 2;
        o.is[i] = left < 10 ? 1 : 2;
        o.takes[who][0]++;
        o.takes[who][1] += bag - left;
        return left;
    }

    private int found(int number) {
        finding = number;
        return -10 - number;
    }

    private static boolean in(int v, int least, int most) {
        return least <= v && v <= most;
    }

    private int players() {
        return told().players();
    }

    private int notes() {
        return told().notes.size();
    }

    int type(int text, int b) {
        if (!in(text, 0, 1) || !in(b, 0, 255)) {
            return BAD;
        }
        if (texts[text].length() == ROOM[text]) {
            return FULL;
        }
        texts[text] += (char) b;
        return texts[text].length();
    }

    int wipe(int text) {
        if (!in(text, 0, 1)) {
            return BAD;
        }
        int had = texts[text].length();
        texts[text] = "";
        return had;
    }

    int undo(int text) {
        if (!in(text, 0, 1)) {
            return BAD;
        }
        if (texts[text].isEmpty()) {
            return NOT;
        }
        texts[text] = texts[text].substring(0, texts[text].length() - 1);
        return texts[text].length();
    }

    int fault(int text) {
        if (!in(text, 0, 1)) {
            return BAD;
        }
        for (int n = 1; n <= texts[text].length(); n++) {
            Matcher m = GRAMMAR[text].matcher(texts[text].substring(0, n));
            if (!m.matches() && !m.hitEnd()) {
                return n - 1;
            }
        }
        return GRAMMAR[text].matcher(texts[text]).matches() ? NONE : texts[text].length();
    }

    int player(int player, int what) {
        if (!in(player, 0, players() - 1) || !in(what, 0, 1)) {
            return BAD;
        }
        return what == 0 ? "thc".indexOf(told().sort(player)) : told().lets(player);
    }

    int note(int i, int what) {
        if (!in(i, 0, 15) || !in(what, 0, 1)) {
            return BAD;
        }
        return i < notes() ? told().notes.get(i)[what] : NONE;
    }

    int bag(int v) {
        if (!in(v, 1, 99)) {
            return BAD;
        }
        int old = bag;
        bag = v;
        return old;
    }

    int event(int kind, int beat) {
        if (!in(kind, 0, 2) || !in(beat, 0, 23)) {
            return BAD;
        }
        if (events.size() == 8) {
            return FULL;
        }
        events.add(new int[] {kind, beat});
        return events.size();
    }

    int back() {
        if (events.isEmpty()) {
            return NOT;
        }
        events.remove(events.size() - 1);
        return events.size();
    }

    int read(int s) {
        if (!in(s, 0, 3)) {
            return BAD;
        }
        if (sheets[s] == null) {
            return found(1);
        }
        int came = 0;
        while (2 * came + 1 < sheets[s].length && event(sheets[s][2 * came], sheets[s][2 * came + 1]) > 0) {
            came++;
        }
        return came;
    }

    int at(int beat, int what) {
        return in(beat, 0, 23) && in(what, 0, 2) ? go(told()).at[beat][what] : BAD;
    }

    int heard(int i) {
        return in(i, 0, notes() - 1) ? go(told()).is[i] : BAD;
    }

    int takes(int player, int what) {
        return in(player, 0, players() - 1) && in(what, 0, 2) ? go(told()).takes[player][what] : BAD;
    }

    int sum(int what) {
        Outcome o = go(told());
        int[] sums = {o.sounds(), o.leaks, o.stolen};
        return in(what, 0, 2) ? sums[what] : BAD;
    }

    int flat() {
        Outcome o = go(told());
        for (int beat = 0; beat < 24; beat++) {
            if (o.at[beat][1] == 0) {
                return beat;
            }
        }
        return NONE;
    }

    int silent() {
        int bits = 0;
        for (int p = 0; p < players(); p++) {
            bits += takes(p, 0) == 0 ? 1 << p : 0;
        }
        return bits;
    }

    int greedy() {
        int best = NONE;
        for (int p = players() - 1; p >= 0; p--) {
            if (takes(p, 1) > 0 && (best == NONE || takes(p, 1) >= takes(best, 1))) {
                best = p;
            }
        }
        return best;
    }

    int fill(int what) {
        int[] best = {NONE, NONE};
        for (int v = 99; v >= 1; v--) {
            Way w = told();
            w.bag = v;
            int many = go(w).sounds();
            best = many >= best[1] ? new int[] {v, many} : best;
        }
        return in(what, 0, 1) ? best[what] : BAD;
    }

    int swap(int what) {
        int[] best = {NONE, NONE, NONE};
        for (int a = players() - 1; a >= 0; a--) {
            for (int b = players() - 1; b > a; b--) {
                Way w = told();
                w.row.set(a, b);
                w.row.set(b, a);
                int many = go(w).sounds();
                best = many >= best[2] ? new int[] {a, b, many} : best;
            }
        }
        return in(what, 0, 2) ? best[what] : BAD;
    }

    int hold(int what) {
        int[] best = {NONE, NONE};
        for (int beat = 23; beat >= 0; beat--) {
            Way w = told();
            w.events.add(new int[] {2, beat});
            int many = go(w).sounds();
            best = many >= best[1] ? new int[] {beat, many} : best;
        }
        return in(what, 0, 1) ? best[what] : BAD;
    }

    private Way without(int bits) {
        Way w = told();
        w.events.clear();
        for (int e = 0; e < events.size(); e++) {
            if ((bits & 1 << e) == 0) {
                w.events.add(events.get(e));
            }
        }
        return w;
    }

    int spare(int i) {
        if (!in(i, -1, 1)) {
            return BAD;
        }
        List<List<Integer>> rows = new ArrayList<>();
        for (int bits = 0; bits < 1 << events.size(); bits++) {
            List<Integer> row = new ArrayList<>();
            for (int e = 0; e < events.size(); e++) {
                if ((bits & 1 << e) != 0) {
                    row.add(e);
                }
            }
            if (row.size() <= 2 && go(without(bits)).missedOfThose == 0) {
                rows.add(row);
            }
        }
        if (rows.isEmpty()) {
            return NONE;
        }
        rows.sort((a, b) -> a.size() != b.size() ? a.size() - b.size() : a.toString().compareTo(b.toString()));
        List<Integer> best = rows.get(0);
        return i == NONE ? best.size() : i < best.size() ? best.get(i) : NONE;
    }

    int hear(int i, int is) {
        if (!in(i, 0, 15) || !in(is, 0, 2)) {
            return BAD;
        }
        if (heard.size() == 8) {
            return FULL;
        }
        heard.add(new int[] {i, is});
        return heard.size();
    }

    int forget() {
        int had = heard.size();
        heard.clear();
        return had;
    }

    private boolean comesOutSo(Way w) {
        Outcome o = go(w);
        return heard.stream().allMatch(h -> h[0] < o.is.length && o.is[h[0]] == h[1]);
    }

    int never() {
        int bits = 0;
        for (int e = 0; e < events.size(); e++) {
            bits += comesOutSo(without(1 << e)) ? 1 << e : 0;
        }
        return bits;
    }

    private Way with(int player, int what, int v) {
        Way w = told();
        w.put(3 * player + (what == 0 ? 1 : 0), what == 0 ? (char) ('0' + v) : "thc".charAt(v));
        return w;
    }

    int was(int player, int what) {
        if (!in(player, 0, players() - 1) || !in(what, 0, 1)) {
            return BAD;
        }
        int bits = 0;
        for (int v = 0; v < (what == 0 ? 4 : 3); v++) {
            bits += comesOutSo(with(player, what, v)) ? 1 << v : 0;
        }
        return bits;
    }

    int ask(int player) {
        if (!in(player, 0, players() - 1)) {
            return BAD;
        }
        int waste = was(player, 0);
        int best = NONE;
        int least = 99;
        for (int i = 0; i < notes(); i++) {
            int[] alike = new int[3];
            for (int v = 0; v < 4; v++) {
                if ((waste & 1 << v) != 0) {
                    alike[go(with(player, 0, v)).is[i]]++;
                }
            }
            int most = Arrays.stream(alike).max().getAsInt();
            if (most < least) {
                least = most;
                best = i;
            }
        }
        return best;
    }

    long chance(int c, int i, int what) {
        if (!in(c, 0, 16) || !in(i, 0, notes() - 1) || !in(what, 0, 1)) {
            return Long.MIN_VALUE + 2;
        }
        BigInteger above = BigInteger.ZERO;
        BigInteger below = BigInteger.valueOf(16).pow(events.size());
        for (int bits = 0; bits < 1 << events.size(); bits++) {
            if (go(without(bits)).is[i] > 0) {
                int gone = Integer.bitCount(bits);
                above = above.add(BigInteger.valueOf(16 - c).pow(gone)
                    .multiply(BigInteger.valueOf(c).pow(events.size() - gone)));
            }
        }
        BigInteger common = above.gcd(below);
        return (what == 0 ? above : below).divide(common).longValueExact();
    }

    int years(int seed, int n, int what) {
        if (!in(n, 0, 16) || !in(what, 0, 1)) {
            return BAD;
        }
        Way w = told();
        w.notes.clear();
        BigInteger s = BigInteger.valueOf(seed);
        for (int i = 0; i < n && w.players() > 0; i++) {
            s = nextSeed(s);
            int beat = s.shiftRight(16).intValue() % 24;
            s = nextSeed(s);
            w.notes.add(new int[] {beat, s.shiftRight(16).intValue() % w.players()});
        }
        Outcome o = go(w);
        return what == 0 ? o.sounds() : o.at[23][1];
    }

    private static BigInteger nextSeed(BigInteger s) {
        return s.multiply(BigInteger.valueOf(1103515245)).add(BigInteger.valueOf(12345))
            .mod(BigInteger.ONE.shiftLeft(32));
    }

    int sheet(int s, int form, int n) {
        if (!in(s, 0, 3) || !in(form, 0, 2) || n > 60) {
            return BAD;
        }
        if (n < 0) {
            return found(5);
        }
        sheets[s] = new int[n];
        forms[s] = form;
        return n;
    }

    int lose(int s) {
        if (!in(s, 0, 3)) {
            return BAD;
        }
        if (sheets[s] == null) {
            return found(1);
        }
        int had = sheets[s].length;
        sheets[s] = null;
        return had;
    }

    private static int cut(int form, int v) {
        int shift = form == 0 ? 24 : form == 1 ? 16 : 0;
        return v << shift >> shift;
    }

    private int item(int s, int form, int i) {
        if (!in(s, 0, 3) || !in(form, 0, 2)) {
            return BAD;
        }
        if (sheets[s] == null) {
            return found(1);
        }
        if (forms[s] != form) {
            return found(3);
        }
        return in(i, 0, sheets[s].length - 1) ? 1 : found(2);
    }

    int lay(int s, int form, int i, int v) {
        int may = item(s, form, i);
        if (may == 1) {
            sheets[s][i] = cut(form, v);
        }
        return may;
    }

    int get(int s, int form, int i) {
        return item(s, form, i) == 1 ? sheets[s][i] : Integer.MIN_VALUE;
    }

    int copy(int s, int i, int t, int j, int n) {
        if (!in(s, 0, 3) || !in(t, 0, 3)) {
            return BAD;
        }
        if (sheets[s] == null || sheets[t] == null) {
            return found(1);
        }
        if (forms[s] != forms[t]) {
            return found(4);
        }
        if (i < 0 || j < 0 || n < 0 || (long) i + n > sheets[s].length || (long) j + n > sheets[t].length) {
            return found(2);
        }
        int[] asTheyWere = sheets[s].clone();
        for (int k = 0; k < n; k++) {
            sheets[t][j + k] = asTheyWere[i + k];
        }
        return 1;
    }

    int write(int s) {
        if (!in(s, 0, 3)) {
            return BAD;
        }
        if (sheets[s] == null) {
            return found(1);
        }
        int many = 0;
        for (int beat = 0; beat < 24 && beat < sheets[s].length; beat++) {
            sheets[s][beat] = cut(forms[s], at(beat, 1));
            many++;
        }
        return many;
    }

    int count(int what) {
        if (!in(what, 0, 8)) {
            return BAD;
        }
        int[] counts = {players(), notes(), texts[0].length(), texts[1].length(), events.size(), bag, sum(0),
            heard.size(), finding};
        return counts[what];
    }

    long digest() {
        long[] h = {17};
        for (int what = 0; what <= 7; what++) {
            add(h, count(what));
        }
        add(h, fault(0), fault(1));
        for (int beat = 0; beat < 24; beat++) {
            add(h, at(beat, 0), at(beat, 1), at(beat, 2));
        }
        for (int i = 0; i < 16; i++) {
            add(h, note(i, 0), note(i, 1));
        }
        for (int i = 0; i < notes(); i++) {
            add(h, heard(i), chance(5, i, 0), chance(5, i, 1));
        }
        for (int p = 0; p < players(); p++) {
            add(h, player(p, 0), player(p, 1), takes(p, 0), takes(p, 1), takes(p, 2), was(p, 0), was(p, 1), ask(p));
        }
        add(h, sum(0), sum(1), sum(2), flat(), silent(), greedy(), fill(0), fill(1));
        add(h, swap(0), swap(1), swap(2), hold(0), hold(1), spare(NONE), spare(0));
        add(h, never(), years(7, 12, 0), years(7, 12, 1));
        return h[0];
    }

    private static void add(long[] h, long... values) {
        for (long v : values) {
            h[0] = 31 * h[0] + v;
        }
    }
}

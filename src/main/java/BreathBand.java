import java.util.Arrays;

/** A band with one breath, in a bag that goes along the row; ../shared/DOC.md says what each call answers. */
public final class BreathBand {
    public static final int NONE = -1, BAD = -2, NOT = -3, FULL = -4;

    private static final int MOST_PLAYERS = 11;
    private static final int MOST_NOTES = 16;
    private static final int PLAYERS_BYTES = 32;
    private static final int NOTES_BYTES = 47;
    private static final int BEATS = 24;
    private static final int MOST_EVENTS = 8;
    private static final int SUBSETS = 1 << MOST_EVENTS;
    private static final int MOST_HEARD = 8;
    private static final int LEAST_BAG = 1;
    private static final int MOST_BAG = 99;
    private static final int FIRST_BAG = 40;
    private static final int SHEETS = 4;
    private static final int MOST_ITEMS = 60;

    private static final int THEFT = 0;
    private static final int FROST = 1;
    private static final int KEPT = 2;

    private static final int TUBA = 0;
    private static final int HORN = 1;
    private static final int CORNET = 2;
    private static final int SORTS = 3;
    private static final int LETTINGS = 4;

    private static final int MISSED = 0;
    private static final int HUMMED = 1;
    private static final int PLAYED = 2;
    private static final int OUTCOMES = 3;

    private static final int STOLEN_BY_ONE = 3;
    private static final int LOST_AT_CORNER = 2;
    private static final int HUM_BELOW = 10;
    private static final int SIXTEENTHS = 16;

    private static final int NULL = 1;
    private static final int INDEX = 2;
    private static final int CAST = 3;
    private static final int STORE = 4;
    private static final int SIZE = 5;
    private static final int FINDING_BASE = -10;

    private static final int LEAST_INT = 1 << 31;
    private static final long BAD_LONG = (1L << 63) - BAD;

    private final Text playersText = new Text(false);
    private final Text notesText = new Text(true);
    private final Band told = new Band();
    private final Band trial = new Band();
    private final Run asTold = new Run();
    private final Run tried = new Run();
    private final Ear ear = new Ear();
    private final Best bestFill = new Best();
    private final Best bestSwap = new Best();
    private final Best bestHold = new Best();
    private final Best bestSpare = new Best();
    private final int[] soundsWithout = new int[SUBSETS];
    private final int[] alike = new int[MOST_NOTES * OUTCOMES];
    private final Sheet[] sheets = new Sheet[SHEETS];
    private boolean toldKnown = false;
    private boolean subsetsKnown = false;
    private int latestFinding = 0;

    public BreathBand() {
        for (int s = 0; s < SHEETS; s++) {
            sheets[s] = new Sheet();
        }
    }

    // ---- players, notes, the bag, events

    public int type(int text, int b) {
        if (!within(text, 0, 1) || !within(b, 0, 255)) {
            return BAD;
        }
        Text t = textOf(text);
        if (!t.append(b)) {
            return FULL;
        }
        takeTexts();
        return t.size;
    }

    public int wipe(int text) {
        if (!within(text, 0, 1)) {
            return BAD;
        }
        Text t = textOf(text);
        int had = t.size;
        t.size = 0;
        takeTexts();
        return had;
    }

    public int undo(int text) {
        if (!within(text, 0, 1)) {
            return BAD;
        }
        Text t = textOf(text);
        if (t.size == 0) {
            return NOT;
        }
        t.size--;
        takeTexts();
        return t.size;
    }

    public int fault(int text) {
        if (!within(text, 0, 1)) {
            return BAD;
        }
        return textOf(text).faultPlace();
    }

    public int player(int player, int what) {
        if (!isPlayer(player) || !within(what, 0, 1)) {
            return BAD;
        }
        return what == 0 ? told.sort[player] : told.lets[player];
    }

    public int note(int i, int what) {
        if (!within(i, 0, MOST_NOTES - 1) || !within(what, 0, 1)) {
            return BAD;
        }
        if (i >= told.notes) {
            return NONE;
        }
        return what == 0 ? told.noteBeat[i] : told.notePlayer[i];
    }

    public int bag(int v) {
        if (!within(v, LEAST_BAG, MOST_BAG)) {
            return BAD;
        }
        int before = told.bagAtFirst;
        told.bagAtFirst = v;
        unlearn();
        return before;
    }

    public int event(int kind, int beat) {
        if (!isEvent(kind, beat)) {
            return BAD;
        }
        if (!told.addEvent(kind, beat)) {
            return FULL;
        }
        unlearn();
        return told.events;
    }

    public int back() {
        if (told.events == 0) {
            return NOT;
        }
        told.events--;
        unlearn();
        return told.events;
    }

    public int read(int s) {
        if (!within(s, 0, SHEETS - 1)) {
            return BAD;
        }
        Sheet sheet = sheets[s];
        if (sheet.lost) {
            return found(NULL);
        }
        int before = told.events;
        for (int i = 0; i + 1 < sheet.size; i += 2) {
            int kind = sheet.items[i];
            int beat = sheet.items[i + 1];
            if (!told.addEvent(kind, beat)) {
                break;
            }
        }
        unlearn();
        return told.events - before;
    }

    // ---- beats

    public int at(int beat, int what) {
        if (!within(beat, 0, BEATS - 1) || !within(what, 0, 2)) {
            return BAD;
        }
        Run run = runAsTold();
        if (what == 0) {
            return run.seatBehind[beat];
        }
        return what == 1 ? run.heldBehind[beat] : run.lostOn[beat];
    }

    public int heard(int i) {
        if (!isNote(i)) {
            return BAD;
        }
        return runAsTold().outcome[i];
    }

    public int takes(int player, int what) {
        if (!isPlayer(player) || !within(what, 0, 2)) {
            return BAD;
        }
        Run run = runAsTold();
        if (what == 0) {
            return run.soundedOf[player];
        }
        return what == 1 ? run.takenBy[player] : run.goneFrom[player];
    }

    public int sum(int what) {
        if (!within(what, 0, 2)) {
            return BAD;
        }
        Run run = runAsTold();
        if (what == 0) {
            return run.sounded;
        }
        return what == 1 ? run.leaks : run.stolen;
    }

    public int flat() {
        Run run = runAsTold();
        for (int beat = 0; beat < BEATS; beat++) {
            if (run.heldBehind[beat] == 0) {
                return beat;
            }
        }
        return NONE;
    }

    public int silent() {
        Run run = runAsTold();
        int bits = 0;
        for (int p = 0; p < told.players; p++) {
            if (run.soundedOf[p] == 0) {
                bits |= 1 << p;
            }
        }
        return bits;
    }

    public int greedy() {
        Run run = runAsTold();
        int who = NONE;
        int most = 0;
        for (int p = 0; p < told.players; p++) {
            if (run.takenBy[p] > most) {
                most = run.takenBy[p];
                who = p;
            }
        }
        return who;
    }

    // ---- plans

    public int fill(int what) {
        if (!within(what, 0, 1)) {
            return BAD;
        }
        if (!bestFill.known) {
            searchFill();
        }
        return what == 0 ? bestFill.first : bestFill.many;
    }

    public int swap(int what) {
        if (!within(what, 0, 2)) {
            return BAD;
        }
        if (!bestSwap.known) {
            searchSwap();
        }
        if (what == 0) {
            return bestSwap.first;
        }
        return what == 1 ? bestSwap.other : bestSwap.many;
    }

    public int hold(int what) {
        if (!within(what, 0, 1)) {
            return BAD;
        }
        if (!bestHold.known) {
            searchHold();
        }
        return what == 0 ? bestHold.first : bestHold.many;
    }

    public int spare(int i) {
        if (!within(i, NONE, 1)) {
            return BAD;
        }
        if (!bestSpare.known) {
            searchSpare();
        }
        if (i == NONE) {
            return bestSpare.many;
        }
        return i == 0 ? bestSpare.first : bestSpare.other;
    }

    // ---- heard, chance, years

    public int hear(int i, int is) {
        if (!within(i, 0, MOST_NOTES - 1) || !within(is, MISSED, PLAYED)) {
            return BAD;
        }
        if (!ear.remember(i, is)) {
            return FULL;
        }
        return ear.size;
    }

    public int forget() {
        int had = ear.size;
        ear.size = 0;
        return had;
    }

    public int never() {
        trial.become(told);
        int bits = 0;
        for (int e = 0; e < told.events; e++) {
            trial.without = 1 << e;
            if (triedFits()) {
                bits |= 1 << e;
            }
        }
        return bits;
    }

    public int was(int player, int what) {
        if (!isPlayer(player) || !within(what, 0, 1)) {
            return BAD;
        }
        trial.become(told);
        int[] row = what == 0 ? trial.lets : trial.sort;
        int values = what == 0 ? LETTINGS : SORTS;
        int bits = 0;
        for (int v = 0; v < values; v++) {
            row[player] = v;
            if (triedFits()) {
                bits |= 1 << v;
            }
        }
        return bits;
    }

    public int ask(int player) {
        if (!isPlayer(player)) {
            return BAD;
        }
        countAlike(player);
        int best = NONE;
        int least = LETTINGS + 1;
        for (int i = 0; i < told.notes; i++) {
            int most = mostAlike(i);
            if (most < least) {
                least = most;
                best = i;
            }
        }
        return best;
    }

    public long chance(int c, int i, int what) {
        if (!within(c, 0, SIXTEENTHS) || !isNote(i) || !within(what, 0, 1)) {
            return BAD_LONG;
        }
        if (!subsetsKnown) {
            learnSubsets();
        }
        long above = 0;
        int subsets = 1 << told.events;
        for (int without = 0; without < subsets; without++) {
            if ((soundsWithout[without] >> i & 1) != 0) {
                above += weight(c, Integer.bitCount(without));
            }
        }
        // 16 to the power of events is a power of two, so halving alone brings the lowest terms
        int halvings = 4 * told.events;
        long below = 1L << halvings;
        for (int k = 0; k < halvings && above % 2 == 0; k++) {
            above /= 2;
            below /= 2;
        }
        return what == 0 ? above : below;
    }

    public int years(int seed, int n, int what) {
        if (!within(n, 0, MOST_NOTES) || !within(what, 0, 1)) {
            return BAD;
        }
        trial.become(told);
        trial.clearNotes();
        drawNotes(seed, n);
        tried.play(trial);
        return what == 0 ? tried.sounded : tried.heldBehind[BEATS - 1];
    }

    // ---- sheets

    public int sheet(int s, int form, int n) {
        if (!within(s, 0, SHEETS - 1) || !within(form, 0, 2) || n > MOST_ITEMS) {
            return BAD;
        }
        if (n < 0) {
            return found(SIZE);
        }
        sheets[s].renew(form, n);
        return n;
    }

    public int lose(int s) {
        if (!within(s, 0, SHEETS - 1)) {
            return BAD;
        }
        Sheet sheet = sheets[s];
        if (sheet.lost) {
            return found(NULL);
        }
        sheet.lost = true;
        return sheet.size;
    }

    public int lay(int s, int form, int i, int v) {
        if (!within(s, 0, SHEETS - 1) || !within(form, 0, 2)) {
            return BAD;
        }
        int finding = sheets[s].findingAt(form, i);
        if (finding != 0) {
            return found(finding);
        }
        sheets[s].put(i, v);
        return 1;
    }

    public int get(int s, int form, int i) {
        if (!within(s, 0, SHEETS - 1) || !within(form, 0, 2)) {
            return LEAST_INT;
        }
        int finding = sheets[s].findingAt(form, i);
        if (finding != 0) {
            latestFinding = finding;
            return LEAST_INT;
        }
        return sheets[s].items[i];
    }

    public int copy(int s, int i, int t, int j, int n) {
        if (!within(s, 0, SHEETS - 1) || !within(t, 0, SHEETS - 1)) {
            return BAD;
        }
        Sheet from = sheets[s];
        Sheet to = sheets[t];
        if (from.lost || to.lost) {
            return found(NULL);
        }
        if (from.form != to.form) {
            return found(STORE);
        }
        if (!from.holds(i, n) || !to.holds(j, n)) {
            return found(INDEX);
        }
        System.arraycopy(from.items, i, to.items, j, n);
        return 1;
    }

    public int write(int s) {
        if (!within(s, 0, SHEETS - 1)) {
            return BAD;
        }
        Sheet sheet = sheets[s];
        if (sheet.lost) {
            return found(NULL);
        }
        Run run = runAsTold();
        int many = Math.min(sheet.size, BEATS);
        for (int beat = 0; beat < many; beat++) {
            sheet.put(beat, run.heldBehind[beat]);
        }
        return many;
    }

    public int count(int what) {
        switch (what) {
            case 0: return told.players;
            case 1: return told.notes;
            case 2: return playersText.size;
            case 3: return notesText.size;
            case 4: return told.events;
            case 5: return told.bagAtFirst;
            case 6: return runAsTold().sounded;
            case 7: return ear.size;
            case 8: return latestFinding;
            default: return BAD;
        }
    }

    public long digest() {
        long h = 17;
        for (int what = 0; what <= 7; what++) {
            h = mix(h, count(what));
        }
        h = mix(mix(h, fault(0)), fault(1));
        for (int beat = 0; beat < BEATS; beat++) {
            h = mix(mix(mix(h, at(beat, 0)), at(beat, 1)), at(beat, 2));
        }
        h = mixPlayers(mixNotes(h));
        h = mix(mix(mix(h, sum(0)), sum(1)), sum(2));
        h = mix(mix(mix(h, flat()), silent()), greedy());
        h = mix(mix(h, fill(0)), fill(1));
        h = mix(mix(mix(h, swap(0)), swap(1)), swap(2));
        h = mix(mix(h, hold(0)), hold(1));
        h = mix(mix(h, spare(NONE)), spare(0));
        h = mix(h, never());
        return mix(mix(h, years(7, 12, 0)), years(7, 12, 1));
    }

    private long mixNotes(long start) {
        long h = start;
        for (int i = 0; i < MOST_NOTES; i++) {
            h = mix(mix(h, note(i, 0)), note(i, 1));
        }
        for (int i = 0; i < told.notes; i++) {
            h = mix(mix(mix(h, heard(i)), chance(5, i, 0)), chance(5, i, 1));
        }
        return h;
    }

    private long mixPlayers(long start) {
        long h = start;
        for (int p = 0; p < told.players; p++) {
            h = mix(mix(h, player(p, 0)), player(p, 1));
            h = mix(mix(mix(h, takes(p, 0)), takes(p, 1)), takes(p, 2));
            h = mix(mix(mix(h, was(p, 0)), was(p, 1)), ask(p));
        }
        return h;
    }

    private static long mix(long h, long v) {
        return 31 * h + v;
    }

    private static boolean within(int v, int least, int most) {
        return v >= least && v <= most;
    }

    private static boolean isEvent(int kind, int beat) {
        return within(kind, THEFT, KEPT) && within(beat, 0, BEATS - 1);
    }

    private boolean isPlayer(int player) {
        return within(player, 0, told.players - 1);
    }

    private boolean isNote(int i) {
        return within(i, 0, told.notes - 1);
    }

    private Text textOf(int text) {
        return text == 0 ? playersText : notesText;
    }

    private int found(int finding) {
        latestFinding = finding;
        return FINDING_BASE - finding;
    }

    private void takeTexts() {
        told.takePlayers(playersText);
        told.takeNotes(notesText);
        unlearn();
    }

    /** What was worked out from what is told holds no longer once anything told is another. */
    private void unlearn() {
        toldKnown = false;
        subsetsKnown = false;
        bestFill.known = false;
        bestSwap.known = false;
        bestHold.known = false;
        bestSpare.known = false;
    }

    private Run runAsTold() {
        if (!toldKnown) {
            asTold.play(told);
            toldKnown = true;
        }
        return asTold;
    }

    private int triedSounds() {
        tried.play(trial);
        return tried.sounded;
    }

    private boolean triedFits() {
        tried.play(trial);
        return ear.fits(tried, trial.notes);
    }

    private void searchFill() {
        trial.become(told);
        bestFill.begin();
        for (int v = LEAST_BAG; v <= MOST_BAG; v++) {
            trial.bagAtFirst = v;
            bestFill.offer(v, NONE, triedSounds());
        }
    }

    private void searchSwap() {
        trial.become(told);
        bestSwap.begin();
        for (int a = 0; a < told.players; a++) {
            for (int b = a + 1; b < told.players; b++) {
                trial.changeSeats(a, b);
                bestSwap.offer(a, b, triedSounds());
                trial.changeSeats(a, b);
            }
        }
    }

    private void searchHold() {
        trial.become(told);
        bestHold.begin();
        for (int beat = 0; beat < BEATS; beat++) {
            trial.alsoKept = beat;
            bestHold.offer(beat, NONE, triedSounds());
        }
    }

    private void searchSpare() {
        trial.become(told);
        bestSpare.begin();
        if (noneMissedWithout(0)) {
            bestSpare.offer(NONE, NONE, 0);
            return;
        }
        for (int e = 0; e < told.events; e++) {
            if (noneMissedWithout(1 << e)) {
                bestSpare.offer(e, NONE, 1);
                return;
            }
        }
        for (int e = 0; e < told.events; e++) {
            for (int f = e + 1; f < told.events; f++) {
                if (noneMissedWithout(1 << e | 1 << f)) {
                    bestSpare.offer(e, f, 2);
                    return;
                }
            }
        }
    }

    private boolean noneMissedWithout(int events) {
        trial.without = events;
        tried.play(trial);
        return tried.missedOfThese == 0;
    }

    private void learnSubsets() {
        trial.become(told);
        int subsets = 1 << told.events;
        for (int without = 0; without < subsets; without++) {
            trial.without = without;
            tried.play(trial);
            soundsWithout[without] = tried.soundedBits;
        }
        subsetsKnown = true;
    }

    /** Of 16 to the power of events, how many ways there are for just so many chosen ones not to be. */
    private long weight(int c, int absent) {
        long ways = 1;
        for (int e = 0; e < told.events; e++) {
            ways *= e < absent ? SIXTEENTHS - c : c;
        }
        return ways;
    }

    private void countAlike(int player) {
        Arrays.fill(alike, 0);
        trial.become(told);
        for (int v = 0; v < LETTINGS; v++) {
            trial.lets[player] = v;
            if (triedFits()) {
                for (int i = 0; i < trial.notes; i++) {
                    alike[i * OUTCOMES + tried.outcome[i]]++;
                }
            }
        }
    }

    private int mostAlike(int i) {
        int most = 0;
        for (int is = 0; is < OUTCOMES; is++) {
            most = Math.max(most, alike[i * OUTCOMES + is]);
        }
        return most;
    }

    private void drawNotes(int seed, int n) {
        if (told.players == 0) {
            return;
        }
        int s = seed;
        for (int i = 0; i < n; i++) {
            s = nextSeed(s);
            int beat = (s >>> 16) % BEATS;
            s = nextSeed(s);
            trial.addNote(beat, (s >>> 16) % told.players);
        }
    }

    private static int nextSeed(int seed) {
        return 1103515245 * seed + 12345;
    }

    /** A text of things of two bytes each, with ; between them. */
    private static final class Text {
        private static final char BETWEEN = ';';

        final boolean ofNotes;
        final int room;
        final int mostThings;
        final int[] bytes = new int[NOTES_BYTES];
        int size = 0;

        Text(boolean ofNotes) {
            this.ofNotes = ofNotes;
            this.room = ofNotes ? NOTES_BYTES : PLAYERS_BYTES;
            this.mostThings = ofNotes ? MOST_NOTES : MOST_PLAYERS;
        }

        boolean append(int b) {
            if (size >= room) {
                return false;
            }
            bytes[size] = b;
            size++;
            return true;
        }

        int faultPlace() {
            for (int i = 0; i < size; i++) {
                if (i / 3 >= mostThings || !mayStand(bytes[i], i % 3)) {
                    return i;
                }
            }
            return size == 0 || size % 3 == 2 ? NONE : size;
        }

        int things() {
            return faultPlace() == NONE ? (size + 1) / 3 : 0;
        }

        /** What the first (0) or second (1) byte of a thing stands for; NONE: it may not stand there. */
        int meaning(int b, int place) {
            if (ofNotes) {
                return upTo(b, 'a', place == 0 ? BEATS : MOST_PLAYERS);
            }
            return place == 0 ? sortOf(b) : upTo(b, '0', LETTINGS);
        }

        int meaningAt(int thing, int place) {
            int i = thing * 3 + place;
            return i >= 0 && i < size ? meaning(bytes[i], place) : NONE;
        }

        private boolean mayStand(int b, int place) {
            return place == 2 ? b == BETWEEN : meaning(b, place) != NONE;
        }

        private static int upTo(int b, char first, int many) {
            return b >= first && b < first + many ? b - first : NONE;
        }

        private static int sortOf(int b) {
            switch (b) {
                case 't': return TUBA;
                case 'h': return HORN;
                case 'c': return CORNET;
                default: return NONE;
            }
        }
    }

    /** All that the beats depend on: as told, or with something else in place of it, to try. */
    private static final class Band {
        int players = 0;
        final int[] sort = new int[MOST_PLAYERS];
        final int[] lets = new int[MOST_PLAYERS];
        final int[] seatOf = new int[MOST_PLAYERS];
        final int[] sitter = new int[MOST_PLAYERS];
        int notes = 0;
        final int[] noteBeat = new int[MOST_NOTES];
        final int[] notePlayer = new int[MOST_NOTES];
        final int[] notesOn = new int[BEATS];
        int bagAtFirst = FIRST_BAG;
        int events = 0;
        final int[] eventKind = new int[MOST_EVENTS];
        final int[] eventBeat = new int[MOST_EVENTS];
        int without = 0;
        int alsoKept = NONE;

        void takePlayers(Text text) {
            players = Math.min(text.things(), MOST_PLAYERS);
            for (int p = 0; p < players; p++) {
                sort[p] = text.meaningAt(p, 0);
                lets[p] = text.meaningAt(p, 1);
                seatOf[p] = p;
                sitter[p] = p;
            }
        }

        void takeNotes(Text text) {
            clearNotes();
            int things = text.things();
            for (int i = 0; i < things; i++) {
                addNote(text.meaningAt(i, 0), text.meaningAt(i, 1));
            }
        }

        void clearNotes() {
            notes = 0;
            Arrays.fill(notesOn, 0);
        }

        void addNote(int beat, int player) {
            if (notes >= MOST_NOTES || !within(beat, 0, BEATS - 1) || !within(player, 0, MOST_PLAYERS - 1)) {
                return;
            }
            noteBeat[notes] = beat;
            notePlayer[notes] = player;
            notesOn[beat] |= 1 << notes;
            notes++;
        }

        boolean addEvent(int kind, int beat) {
            if (events >= MOST_EVENTS || !isEvent(kind, beat)) {
                return false;
            }
            eventKind[events] = kind;
            eventBeat[events] = beat;
            events++;
            return true;
        }

        void become(Band other) {
            players = other.players;
            System.arraycopy(other.sort, 0, sort, 0, MOST_PLAYERS);
            System.arraycopy(other.lets, 0, lets, 0, MOST_PLAYERS);
            System.arraycopy(other.seatOf, 0, seatOf, 0, MOST_PLAYERS);
            System.arraycopy(other.sitter, 0, sitter, 0, MOST_PLAYERS);
            notes = other.notes;
            System.arraycopy(other.noteBeat, 0, noteBeat, 0, MOST_NOTES);
            System.arraycopy(other.notePlayer, 0, notePlayer, 0, MOST_NOTES);
            System.arraycopy(other.notesOn, 0, notesOn, 0, BEATS);
            bagAtFirst = other.bagAtFirst;
            events = other.events;
            System.arraycopy(other.eventKind, 0, eventKind, 0, MOST_EVENTS);
            System.arraycopy(other.eventBeat, 0, eventBeat, 0, MOST_EVENTS);
            without = other.without;
            alsoKept = other.alsoKept;
        }

        void changeSeats(int a, int b) {
            int seat = seatOf[a];
            seatOf[a] = seatOf[b];
            seatOf[b] = seat;
            sitter[seatOf[a]] = a;
            sitter[seatOf[b]] = b;
        }
    }

    /** What comes of a band, beat by beat. */
    private static final class Run {
        final int[] seatBehind = new int[BEATS];
        final int[] heldBehind = new int[BEATS];
        final int[] lostOn = new int[BEATS];
        final int[] outcome = new int[MOST_NOTES];
        final int[] soundedOf = new int[MOST_PLAYERS];
        final int[] takenBy = new int[MOST_PLAYERS];
        final int[] goneFrom = new int[MOST_PLAYERS];
        int sounded;
        int soundedBits;
        int missedOfThese;
        int leaks;
        int stolen;

        private final int[] theftsOn = new int[BEATS];
        private int frosts;
        private int kept;
        private int here;
        private int held;

        void play(Band band) {
            clear(band);
            gatherEvents(band);
            for (int beat = 0; beat < BEATS; beat++) {
                steal(theftsOn[beat]);
                int bits = band.notesOn[beat];
                for (int i = 0; i < band.notes && bits >> i != 0; i++) {
                    if ((bits >> i & 1) != 0) {
                        soundOne(band, i, band.notePlayer[i]);
                    }
                }
                int lost = (kept >> beat & 1) != 0 ? 0 : passOn(band, (frosts >> beat & 1) != 0);
                seatBehind[beat] = here;
                heldBehind[beat] = held;
                lostOn[beat] = lost;
            }
        }

        private void clear(Band band) {
            Arrays.fill(outcome, MISSED);
            Arrays.fill(soundedOf, 0);
            Arrays.fill(takenBy, 0);
            Arrays.fill(goneFrom, 0);
            Arrays.fill(theftsOn, 0);
            sounded = 0;
            soundedBits = 0;
            missedOfThese = 0;
            leaks = 0;
            stolen = 0;
            frosts = 0;
            kept = 0;
            here = 0;
            held = band.bagAtFirst;
        }

        private void gatherEvents(Band band) {
            for (int e = 0; e < band.events; e++) {
                if ((band.without >> e & 1) == 0) {
                    gather(band.eventKind[e], band.eventBeat[e]);
                }
            }
            if (band.alsoKept != NONE) {
                gather(KEPT, band.alsoKept);
            }
        }

        private void gather(int kind, int beat) {
            if (kind == THEFT) {
                theftsOn[beat]++;
            } else if (kind == FROST) {
                frosts |= 1 << beat;
            } else {
                kept |= 1 << beat;
            }
        }

        private void steal(int thefts) {
            int gone = Math.min(held, STOLEN_BY_ONE * thefts);
            held -= gone;
            stolen += gone;
        }

        private void soundOne(Band band, int i, int player) {
            if (player >= band.players) {
                return;
            }
            int sort = band.sort[player];
            int away = Math.abs(band.seatOf[player] - here);
            int reach = sort == CORNET ? 1 : 0;
            int need = sort == TUBA ? 4 : sort == HORN ? 2 : 1;
            if (away > reach || held < need) {
                missedOfThese++;
                return;
            }
            int taken = need - need / 2;
            held -= taken;
            outcome[i] = held < HUM_BELOW ? HUMMED : PLAYED;
            soundedOf[player]++;
            takenBy[player] += taken;
            sounded++;
            soundedBits |= 1 << i;
        }

        private int passOn(Band band, boolean frost) {
            if (band.players == 0) {
                return 0;
            }
            int who = band.sitter[here];
            boolean corner = here == band.players - 1;
            int due = band.lets[who] + (corner ? LOST_AT_CORNER : 0);
            int gone = Math.min(held, frost ? 2 * due : due);
            held -= gone;
            goneFrom[who] += gone;
            leaks += gone;
            here = corner ? 0 : here + 1;
            return gone;
        }
    }

    /** What was heard. */
    private static final class Ear {
        final int[] notes = new int[MOST_HEARD];
        final int[] outcomes = new int[MOST_HEARD];
        int size = 0;

        boolean remember(int i, int is) {
            if (size >= MOST_HEARD) {
                return false;
            }
            notes[size] = i;
            outcomes[size] = is;
            size++;
            return true;
        }

        boolean fits(Run run, int notesThere) {
            for (int k = 0; k < size; k++) {
                if (notes[k] >= notesThere || run.outcome[notes[k]] != outcomes[k]) {
                    return false;
                }
            }
            return true;
        }
    }

    /** The best of what is offered: offers come the least first, so only a better one takes its place. */
    private static final class Best {
        boolean known = false;
        int first;
        int other;
        int many;

        void begin() {
            known = true;
            first = NONE;
            other = NONE;
            many = NONE;
        }

        void offer(int first, int other, int many) {
            if (many > this.many) {
                this.first = first;
                this.other = other;
                this.many = many;
            }
        }
    }

    /** A row of a form; its items are kept as ints that hold no more bits than the form has. */
    private static final class Sheet {
        boolean lost = true;
        int form = 0;
        int size = 0;
        final int[] items = new int[MOST_ITEMS];

        void renew(int form, int n) {
            lost = false;
            this.form = form;
            size = n;
            Arrays.fill(items, 0);
        }

        int findingAt(int form, int i) {
            if (lost) {
                return NULL;
            }
            if (form != this.form) {
                return CAST;
            }
            return i < 0 || i >= size ? INDEX : 0;
        }

        boolean holds(int i, int n) {
            return i >= 0 && n >= 0 && i <= size - n;
        }

        void put(int i, int v) {
            if (form == 0) {
                items[i] = (byte) v;
            } else if (form == 1) {
                items[i] = (short) v;
            } else {
                items[i] = v;
            }
        }
    }
}

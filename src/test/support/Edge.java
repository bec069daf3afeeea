import java.io.IOException;
import java.nio.file.Files;
import java.nio.file.Path;
import java.util.ArrayList;
import java.util.Arrays;
import java.util.LinkedHashMap;
import java.util.List;
import java.util.Map;
import java.util.function.Consumer;
import java.util.function.ToLongFunction;

/** The frame of the boundary tests: each names the sentence of the document that it holds the program to. */
final class Edge {
    /** As many bytes as a text may have. */
    static final String ELEVEN = "t0;t1;t2;t3;h0;h1;h2;h3;c0;c1;c2";
    static final String SIXTEEN = "aa;bb;cc;dd;ee;ff;gg;hh;ii;jj;kk;la;mb;nc;od;xk";

    /** Numbers far beyond all that is told. */
    static final int[] FAR = {Integer.MIN_VALUE, Integer.MAX_VALUE};

    private static final Path DOCUMENT = Path.of("../shared/DOC.md");
    private static final List<String[]> SENTENCES = new ArrayList<>();
    private static String now = "";
    private static int askedBefore = -1;

    private Edge() {
    }

    /** What follows tests this sentence of this section. */
    static void of(String section, String sentence) {
        endSentence();
        SENTENCES.add(new String[] {section, sentence});
        now = section + ", \"" + sentence + "\": ";
        askedBefore = Due.asked();
    }

    private static void endSentence() {
        if (Due.asked() == askedBefore) {
            isTrue("has a test of its own", false);
        }
    }

    static void of(int promise, String sentence) {
        of("Promise " + promise, sentence);
    }

    static void terms(String sentence) {
        of("Terms", sentence);
    }

    static void is(String call, long want, long got) {
        Due.due(now + call, want, got);
    }

    static void isTrue(String what, boolean so) {
        Due.due(now + what, 1, so ? 1 : 0);
    }

    /** Answers want, sets count(8) if that is a finding's answer, and changes nothing else. */
    static void refused(String call, long want, Consumer<BreathBand> told, ToLongFunction<BreathBand> act) {
        refused(call, want, want <= -11 && want >= -15 ? (int) (-10 - want) : 0, told, act);
    }

    static void refused(String call, long want, int finding, Consumer<BreathBand> told, ToLongFunction<BreathBand> act) {
        for (int earlier : new int[] {0, 1, 5}) {
            BreathBand x = after(earlier, told);
            is(call, want, act.applyAsLong(x));
            is(call + ": count(8)", finding == 0 ? earlier : finding, x.count(8));
            Due.dueText(now + call + ": all else", all(after(earlier, told)).toString(), all(x).toString());
        }
    }

    /** Told so, where this was the latest finding before. */
    private static BreathBand after(int finding, Consumer<BreathBand> told) {
        BreathBand x = new BreathBand();
        if (finding == 1) {
            x.lose(0);
        } else if (finding == 5) {
            x.sheet(0, 0, -1);
        }
        told.accept(x);
        return x;
    }

    /** A new band with these players and notes, so much in the bag, and events: a kind, a beat, and so on. */
    static BreathBand band(String players, String notes, int bag, int... events) {
        BreathBand x = Due.band(players, notes);
        x.bag(bag);
        for (int e = 0; e + 1 < events.length; e += 2) {
            x.event(events[e], events[e + 1]);
        }
        return x;
    }

    /** A text of the same thing so many times. */
    static String times(String thing, int n) {
        return (thing + ";").repeat(n).substring(0, 3 * n - 1);
    }

    /** A band with some of everything: sheets of each form, and one that is lost. */
    static void busy(BreathBand x) {
        Due.tell(x, 0, "t1;h0;c2");
        Due.tell(x, 1, "aa;bb;cc;cb;da;ec");
        x.bag(30);
        x.event(0, 1);
        x.event(1, 3);
        x.event(2, 4);
        x.event(0, 9);
        x.hear(0, 2);
        x.hear(3, 0);
        row(x, 0, 0, 1, 2, -3);
        row(x, 1, 1, 300, -300);
        row(x, 2, 2, 70000, -70000, 5, 6);
    }

    /** A band with as much of everything as there may be; its sheets hold one item each, as a band has 512 calls. */
    static void full(BreathBand x) {
        Due.tell(x, 0, ELEVEN);
        Due.tell(x, 1, SIXTEEN);
        x.bag(99);
        for (int e = 0; e < 8; e++) {
            x.event(e % 3, 3 * e);
            x.hear(2 * e, 2);
        }
        for (int s = 0; s < 4; s++) {
            row(x, s, s % 3, s + 1);
        }
    }

    static void row(BreathBand x, int s, int form, int... items) {
        x.sheet(s, form, items.length);
        for (int i = 0; i < items.length; i++) {
            x.lay(s, form, i, items[i]);
        }
    }

    /** All that can be seen of a band but count(8); the band is used up by that. */
    private static List<Long> all(BreathBand x) {
        List<Long> seen = new ArrayList<>();
        for (int what = 0; what < 8; what++) {
            seen.add((long) x.count(what));
        }
        seen.add(x.digest());
        for (int s = 0; s < 4; s++) {
            addSheet(seen, x, s);
        }
        while (x.back() >= 0) {
            seen.add(x.digest());
        }
        for (int text = 0; text < 2; text++) {
            while (x.undo(text) >= 0) {
                seen.add((long) x.fault(text));
            }
        }
        return seen;
    }

    private static void addSheet(List<Long> seen, BreathBand x, int s) {
        for (int form = 0; form < 3; form++) {
            int item = x.get(s, form, 0);
            for (int i = 1; i <= 60 && item != Integer.MIN_VALUE; i++) {
                seen.add((long) item);
                item = x.get(s, form, i);
            }
            seen.add((long) x.count(8));
        }
        seen.add((long) x.lose(s));
    }

    /** All answers that tell of players, notes, beats, plans and chances, but not of the bytes of texts. */
    static List<Long> answers(BreathBand x) {
        List<Long> seen = new ArrayList<>();
        for (int what : new int[] {0, 1, 4, 5, 6, 7, 8}) {
            seen.add((long) x.count(what));
        }
        for (int beat = 0; beat < 24; beat++) {
            addAll(seen, x.at(beat, 0), x.at(beat, 1), x.at(beat, 2));
        }
        for (int i = 0; i < 16; i++) {
            addAll(seen, x.note(i, 0), x.note(i, 1), x.heard(i), x.chance(5, i, 0), x.chance(5, i, 1));
        }
        for (int p = 0; p < 11; p++) {
            addAll(seen, x.player(p, 0), x.player(p, 1), x.takes(p, 0), x.takes(p, 1), x.takes(p, 2));
            addAll(seen, x.was(p, 0), x.was(p, 1), x.ask(p));
        }
        addAll(seen, x.sum(0), x.sum(1), x.sum(2), x.flat(), x.silent(), x.greedy(), x.fill(0), x.fill(1));
        addAll(seen, x.swap(0), x.swap(1), x.swap(2), x.hold(0), x.hold(1), x.spare(-1), x.spare(0), x.spare(1));
        addAll(seen, x.never(), x.years(7, 12, 0), x.years(7, 12, 1));
        return seen;
    }

    private static void addAll(List<Long> seen, long... answers) {
        for (long answer : answers) {
            seen.add(answer);
        }
    }

    static void sameAnswers(String what, BreathBand want, BreathBand got) {
        Due.dueText(now + what, answers(want).toString(), answers(got).toString());
    }

    /** Each sentence that a test names stands in the document, and no sentence of it is without a test. */
    static void wholeDocument() throws IOException {
        endSentence();
        if (!Files.isReadable(DOCUMENT)) {
            System.out.println("no " + DOCUMENT + " to look for sentences in");
            return;
        }
        Map<String, String> sections = sections();
        Map<String, boolean[]> tested = new LinkedHashMap<>();
        sections.forEach((name, text) -> tested.put(name, new boolean[text.length()]));
        for (String[] one : SENTENCES) {
            String text = sections.getOrDefault(one[0], "");
            int at = text.indexOf(one[1]);
            Due.due("\"" + one[1] + "\" stands in " + one[0], 1, at >= 0 ? 1 : 0);
            for (; at >= 0; at = text.indexOf(one[1], at + 1)) {
                Arrays.fill(tested.get(one[0]), at, at + one[1].length(), true);
            }
        }
        sections.forEach((name, text) ->
            Due.dueText("what no test names of " + name, "", untested(text, tested.get(name))));
    }

    private static String untested(String text, boolean[] tested) {
        StringBuilder b = new StringBuilder();
        for (int i = 0; i < text.length(); i++) {
            if (!tested[i] && Character.isLetterOrDigit(text.charAt(i))) {
                b.append(text.charAt(i));
            }
        }
        return b.toString();
    }

    /** What each section promises, on one line, without headings, signatures and the face. */
    private static Map<String, String> sections() throws IOException {
        Map<String, String> sections = new LinkedHashMap<>();
        String name = "";
        for (String line : Files.readAllLines(DOCUMENT)) {
            if (line.startsWith("#")) {
                name = line.replaceFirst("^#+ *", "").replaceFirst("^(Promise \\d+):.*", "$1");
            } else if (name.startsWith("Promise ") || name.equals("Terms") || name.equals("What it is")) {
                String text = line.replaceFirst("^.*======== \\d", "").replaceFirst("^`[^`]*`:", "").trim();
                if (!text.startsWith("```") && !text.startsWith("Ahead of the calls")) {
                    sections.merge(name, text, (a, b) -> (a + " " + b).trim());
                }
            }
        }
        return sections;
    }
}

import java.util.LinkedHashMap;
import java.util.Map;
import java.util.function.Consumer;
import java.util.function.ToLongFunction;

/** What is told later counts, and what was asked ahead does not. */
final class LaterEdges {
    private LaterEdges() {
    }

    static void all() {
        toldLater();
        eventsLater();
        heardLater();
        askedAhead();
    }

    /** Whoever was asked before the act must answer behind it as one who was not. */
    private static void later(String act, Consumer<BreathBand> told, Consumer<BreathBand> acting) {
        BreathBand x = new BreathBand();
        BreathBand twin = new BreathBand();
        told.accept(x);
        told.accept(twin);
        x.digest();
        x.spare(1);
        acting.accept(x);
        acting.accept(twin);
        Edge.is(act + ": digest()", twin.digest(), x.digest());
        Edge.is(act + ": spare(1)", twin.spare(1), x.spare(1));
    }

    private static void eachLater(String act, Consumer<BreathBand> acting) {
        later("rich, " + act, LaterEdges::rich, acting);
        later("poor, " + act, LaterEdges::poor, acting);
        later("busy, " + act, Edge::busy, acting);
        later("new, " + act, b -> { }, acting);
    }

    /** Nearly all of sixteen notes sound, all players take and let go. */
    private static void rich(BreathBand x) {
        Due.tell(x, 0, "c1;c2;c3");
        Due.tell(x, 1, "aa;ab;bb;ba;bc;cc;cb;db;da;ea;fb;gc;ha;ib;jc;ka");
        x.bag(99);
        x.event(2, 20);
        Edge.row(x, 0, 0, 0, 0, 0, 1, 1, 2);
    }

    /** Two thefts too many. */
    private static void poor(BreathBand x) {
        Due.tell(x, 0, "t0;h3");
        Due.tell(x, 1, "aa;cb");
        x.bag(6);
        x.event(0, 0);
        x.event(0, 0);
        Edge.row(x, 0, 2, 0, 0, 2, 1);
    }

    private static void toldLater() {
        Edge.of(2, "A byte (0 to 255) comes behind a text");
        eachLater("a player more", b -> Due.tell(b, 0, b.count(2) == 0 ? "h1" : ";h1"));
        eachLater("a fault in players", b -> b.type(0, '!'));
        eachLater("a fault in notes", b -> b.type(1, '!'));
        later("a note more", LaterEdges::poor, b -> Due.tell(b, 1, ";ba"));
        Edge.of(3, "A text is empty");
        eachLater("players wiped", b -> b.wipe(0));
        eachLater("notes wiped", b -> b.wipe(1));
        Edge.of(4, "The last byte of a text is undone");
        eachLater("a player's figure undone", b -> b.undo(0));
        eachLater("a note's player undone", b -> b.undo(1));
        later("a player undone", LaterEdges::rich, b -> {
            b.undo(0);
            b.undo(0);
            b.undo(0);
        });
        Edge.of(8, "THE BAG holds so much at first");
        eachLater("1 in the bag", b -> b.bag(1));
        eachLater("99 in the bag", b -> b.bag(99));
    }

    private static void eventsLater() {
        Edge.of(9, "An EVENT more");
        for (int kind = 0; kind < 3; kind++) {
            int which = kind;
            eachLater("an event of kind " + kind, b -> b.event(which, 1));
        }
        Edge.of(10, "The last EVENT is undone");
        eachLater("the last event undone", b -> b.back());
        Edge.of(11, "EVENTS more, from a SHEET:");
        eachLater("events read", b -> b.read(0));
    }

    private static void heardLater() {
        Edge.of(23, "HEARD more");
        for (int is = 0; is < 3; is++) {
            int so = is;
            eachLater("the first note heard " + is, b -> b.hear(0, so));
        }
        Edge.of(24, "All that was HEARD is forgotten");
        eachLater("forgotten", b -> b.forget());
    }

    private static Map<String, ToLongFunction<BreathBand>> asks() {
        Map<String, ToLongFunction<BreathBand>> asks = new LinkedHashMap<>();
        asks.put("at(23, 1)", b -> b.at(23, 1));
        asks.put("at(22, 0)", b -> b.at(22, 0));
        asks.put("heard(0)", b -> b.heard(0));
        asks.put("takes(0, 1)", b -> b.takes(0, 1));
        asks.put("takes(1, 2)", b -> b.takes(1, 2));
        asks.put("sum(1)", b -> b.sum(1));
        asks.put("silent()", b -> b.silent());
        asks.put("fill(0)", b -> b.fill(0));
        asks.put("swap(2)", b -> b.swap(2));
        asks.put("hold(0)", b -> b.hold(0));
        asks.put("spare(0)", b -> b.spare(0));
        asks.put("never()", b -> b.never());
        asks.put("was(0, 0)", b -> b.was(0, 0));
        asks.put("was(0, 1)", b -> b.was(0, 1));
        asks.put("ask(0)", b -> b.ask(0));
        asks.put("chance(5, 0, 0)", b -> b.chance(5, 0, 0));
        asks.put("chance(9, 1, 1)", b -> b.chance(9, 1, 1));
        asks.put("years(7, 12, 0)", b -> b.years(7, 12, 0));
        asks.put("years(3, 2, 1)", b -> b.years(3, 2, 1));
        asks.put("digest()", b -> b.digest());
        return asks;
    }

    private static void askedAhead() {
        Edge.of("What it is", "An object is used for at most 512 calls after it has been made");
        asks().forEach((ahead, first) -> asks().forEach((call, then) -> {
            for (int k = 0; k < 3; k++) {
                BreathBand fresh = band(k);
                BreathBand asked = band(k);
                first.applyAsLong(asked);
                Edge.is(ahead + ", then " + call, then.applyAsLong(fresh), then.applyAsLong(asked));
            }
        }));
    }

    private static BreathBand band(int k) {
        BreathBand x = new BreathBand();
        if (k == 0) {
            rich(x);
        } else if (k == 1) {
            poor(x);
        } else {
            Edge.busy(x);
        }
        return x;
    }
}

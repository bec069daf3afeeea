/** The boundaries of FILL, SWAP, HOLD and SPARE: promises 19 to 22. */
final class PlanEdges {
    private static final int NONE = -1, BAD = -2;

    private PlanEdges() {
    }

    static void all() {
        fill();
        fillCalls();
        swapRows();
        swap();
        hold();
        holdCalls();
        spareRows();
        spareOfPlayers();
        spare();
    }

    private static void isFill(String what, int which, int many, BreathBand x) {
        Edge.is(what + ": fill(0)", which, x.fill(0));
        Edge.is(what + ": fill(1)", many, x.fill(1));
    }

    private static void fill() {
        Edge.terms("FILL: the least number 1 to 99 for THE BAG at first, by which most NOTES SOUND: which; how many.");
        isFill("nobody", 1, 0, new BreathBand());
        isFill("no notes", 1, 0, Edge.band("t0", "", 40));
        isFill("never in the right seat", 1, 0, Edge.band("t0;t0", "ab", 40));
        isFill("1 is enough", 1, 1, Edge.band("c0", "aa", 40));
        isFill("a tuba", 4, 1, Edge.band("t0", "aa", 40));
        isFill("sixteen", 16, 16, Edge.band("c0", Edge.times("aa", 16), 99));
        isFill("whatever is in it now", 4, 1, Edge.band("t0", "aa", 1));
        // nineteen times 5 round the corner, 3 by the theft, 1 for the cornet
        isFill("99 alone", 99, 1, Edge.band("c3", "ta", 40, 0, 0));
        isFill("100 would be needed for both", 4, 1, Edge.band("c3", "aa;ta", 40, 0, 0));
        isFill("two by more, one by little", 2, 1, Edge.band("h3", "aa;xa", 40));
    }

    private static void fillCalls() {
        Edge.of(19, "FILL: which (what = 0), how many (1).");
        BreathBand x = Edge.band("t0", "aa;aa", 40);
        isFill("two", 6, 2, x);
        Edge.is("the bag stays", 40, x.count(5));
        x.event(0, 0);
        isFill("with a theft more", 9, 2, x);
        x.undo(1);
        x.undo(1);
        x.undo(1);
        isFill("with a note less", 7, 1, x);
        Edge.of(19, "BAD.");
        for (int what : new int[] {-1, 2, Edge.FAR[0], Edge.FAR[1]}) {
            Edge.refused("fill(" + what + ")", BAD, Edge::busy, b -> b.fill(what));
        }
    }

    private static void isSwap(String what, int first, int other, int many, BreathBand x) {
        Edge.is(what + ": swap(0)", first, x.swap(0));
        Edge.is(what + ": swap(1)", other, x.swap(1));
        Edge.is(what + ": swap(2)", many, x.swap(2));
    }

    private static void swapRows() {
        Edge.terms("SWAP: the two PLAYERS (the first less) who had better change SEATS, so that most NOTES SOUND");
        isSwap("two", 0, 1, 1, Edge.band("t0;h0", "ab", 40));
        isSwap("the first two of eleven", 0, 1, 1, Edge.band(Edge.times("h0", 11), "ab", 40));
        isSwap("the outer two of eleven", 0, 10, 1, Edge.band(Edge.times("h0", 11), "ak", 40));
        isSwap("the last two of eleven", 9, 10, 2, Edge.band(Edge.times("h0", 11), "jk;kj", 40));
        isSwap("a cornet reaches from where it sits then", 0, 2, 1, Edge.band("h0;h0;c0;h0;h0", "ac", 1));
        Edge.terms("(each keeps one's NOTES)");
        isSwap("a tuba's needs go with it", 0, 1, 0, Edge.band("h0;t0", "ab", 3));
        isSwap("a tuba's needs go with it", 0, 1, 1, Edge.band("h0;t0", "ab", 4));
        isSwap("so does what one lets go", 0, 2, 1, Edge.band("h3;h0;h0", "bb", 3));
        // who lets 3 go passes it round the corner then: 5 go, and the other one needs 2
        isSwap("so does what one lets go, there, too", 0, 1, 1, Edge.band("h3;h0", "cb", 7));
        isSwap("so does what one lets go, there, too", 0, 1, 0, Edge.band("h3;h0", "cb", 6));
        Edge.terms(", of like ones the least row: the first; the other one; how many;");
        isSwap("no notes", 0, 1, 0, Edge.band("h0;h0;h0", "", 40));
        isSwap("0 and 3 ahead of 1 and 2", 0, 3, 1, Edge.band("h0;h0;h0;h0", "ad;bc", 40));
        isSwap("0 and 2 ahead of 0 and 3", 0, 2, 1, Edge.band("h0;h0;h0;h0", "ac;ad", 40));
    }

    private static void swap() {
        Edge.terms("NONE: there are less than two.");
        isSwap("none", NONE, NONE, NONE, Edge.band("", "aa", 40));
        isSwap("one", NONE, NONE, NONE, Edge.band("h0", "aa", 40));
        isSwap("a fault", NONE, NONE, NONE, Edge.band("h0;h0;", "aa", 40));
        Edge.of(20, "SWAP: the first (what = 0), the other one (1), how many (2); NONE.");
        BreathBand x = Edge.band("h0;h0;h0", "bc;cb", 40);
        isSwap("three", 1, 2, 2, x);
        Edge.is("they stay as they are", 0, x.sum(0));
        x.wipe(0);
        isSwap("gone", NONE, NONE, NONE, x);
        Due.tell(x, 0, "h0;h0");
        isSwap("two have come", 0, 1, 1, x);
        Edge.of(20, "BAD.");
        for (int what : new int[] {-1, 3, Edge.FAR[0], Edge.FAR[1]}) {
            Edge.refused("swap(" + what + ")", BAD, Edge::busy, b -> b.swap(what));
            Edge.refused("no players: swap(" + what + ")", BAD, b -> b.bag(3), b -> b.swap(what));
        }
        Edge.of(20, "(Also if it is no better than as it is.)");
        isSwap("worse", 0, 1, 0, Edge.band("h0;h0", "aa;bb", 40));
        isSwap("worse whoever they are", 0, 1, 1, Edge.band("h0;h0;h0", "aa;bb;cc", 40));
        isSwap("as good", 0, 1, 1, Edge.band("h0;h0", "aa;bb;ba", 40));
    }

    private static void isHold(String what, int which, int many, BreathBand x) {
        Edge.is(what + ": hold(0)", which, x.hold(0));
        Edge.is(what + ": hold(1)", many, x.hold(1));
    }

    private static void hold() {
        Edge.terms("HOLD: the BEAT on which it had better be KEPT, besides (whatever room), so that most NOTES SOUND");
        isHold("on the first", 0, 2, Edge.band("h0;h0", "aa;ba", 40));
        isHold("on the last but one", 22, 2, Edge.band("h0;h0", "wa;xa", 40));
        isHold("on the last", 23, 2, Edge.band("h0;h0", "aa;xb", 40));
        isHold("besides those kept", 1, 3, Edge.band("h0;h0", "aa;ba;ca", 40, 2, 0));
        isHold("events are full", 0, 2, Edge.band("h0;h0", "aa;ba", 40, 0, 23, 0, 23, 0, 23, 0, 23, 0, 23, 0, 23, 0, 23, 0, 23));
        isHold("for what it saves", 0, 1, Edge.band("h3", "ba", 5));
        Edge.terms(", of like ones the least: which; how many.");
        isHold("no notes", 0, 0, Edge.band("h0;h0", "", 40));
        isHold("nobody", 0, 0, Edge.band("", "aa", 40));
        isHold("on 0 to 3 alike", 0, 1, Edge.band("h0;h0", "ea;eb", 40));
        isHold("kept already", 0, 1, Edge.band("h0;h0", "ba", 40, 2, 0));
    }

    private static void holdCalls() {
        Edge.of(21, "HOLD: which (what = 0), how many (1).");
        BreathBand x = Edge.band("h0;h0", "aa;ba", 40);
        isHold("at first", 0, 2, x);
        Edge.is("it stays as it is: count(4)", 0, x.count(4));
        Edge.is("it stays as it is: at(0, 0)", 1, x.at(0, 0));
        x.event(2, 0);
        isHold("kept by now", 0, 2, x);
        Edge.of(21, "BAD.");
        for (int what : new int[] {-1, 2, Edge.FAR[0], Edge.FAR[1]}) {
            Edge.refused("hold(" + what + ")", BAD, Edge::busy, b -> b.hold(what));
        }
        Edge.of(21, "(Also if it is no better than as it is.)");
        isHold("as good, behind the notes", 2, 3, Edge.band("h0;h0", "aa;bb;ca", 40));
        isHold("as good, on any", 0, 1, Edge.band("h0", "aa", 40));
    }

    private static void isSpare(String what, int many, int first, int other, BreathBand x) {
        Edge.is(what + ": spare(NONE)", many, x.spare(NONE));
        Edge.is(what + ": spare(0)", first, x.spare(0));
        Edge.is(what + ": spare(1)", other, x.spare(1));
    }

    /** A tuba on the first beat, with so many thefts of it. */
    private static BreathBand robbed(int bag, int thefts) {
        BreathBand x = Edge.band("t0", "aa", bag);
        for (int e = 0; e < thefts; e++) {
            x.event(0, 0);
        }
        return x;
    }

    private static void spareRows() {
        Edge.terms("SPARE: the fewest EVENTS (0 to 2) that had better not be");
        isSpare("none", 0, NONE, NONE, robbed(28, 8));
        isSpare("one", 1, 0, NONE, robbed(27, 8));
        isSpare("two", 2, 0, 1, robbed(22, 8));
        isSpare("three would be needed", NONE, NONE, NONE, robbed(21, 8));
        // a frost costs 5, a theft 3: the frost alone or both thefts
        isSpare("the last alone, not the two ahead", 1, 2, NONE, Edge.band("h3", "ba", 13, 0, 0, 0, 0, 1, 0));
        isSpare("the two ahead, with one less", 2, 0, 1, Edge.band("h3", "ba", 12, 0, 0, 0, 0, 1, 0));
        Edge.terms(", of like ones the least row (each more than the one ahead): how many; the i-th; NONE.");
        // both thefts (0 and 3) or both frosts (1 and 2): one of each is not enough
        isSpare("0 and 3 ahead of 1 and 2", 2, 0, 3, Edge.band("t0;h0;c3;t3", "ea", 19, 0, 2, 1, 3, 1, 3, 0, 2));
        isSpare("the other way round", 2, 0, 3, Edge.band("t0;h0;c3;t3", "ea", 19, 1, 3, 0, 2, 0, 2, 1, 3));
        isSpare("the last of eight", 1, 7, NONE, Edge.band("t0", "aa", 6, 1, 9, 1, 9, 1, 9, 1, 9, 1, 9, 1, 9, 1, 9, 0, 0));
        isSpare("the last two", 2, 6, 7, Edge.band("t0", "aa", 6, 1, 9, 1, 9, 1, 9, 1, 9, 1, 9, 1, 9, 0, 0, 0, 0));
        isSpare("the outer two", 2, 0, 7, Edge.band("t0", "aa", 6, 0, 0, 1, 9, 1, 9, 1, 9, 1, 9, 1, 9, 1, 9, 0, 0));
    }

    private static void spareOfPlayers() {
        Edge.terms(", so that no NOTE of a PLAYER that is there is MISSED");
        isSpare("no notes", 0, NONE, NONE, Edge.band("h0", "", 40, 0, 0));
        isSpare("no players", 0, NONE, NONE, Edge.band("", "aa", 40, 0, 0));
        isSpare("of one who is not there", 0, NONE, NONE, Edge.band("h0", "ab;ak", 40, 0, 0));
        isSpare("of one who is there", NONE, NONE, NONE, Edge.band("h0;h0", "ab;ak", 40, 0, 0));
        isSpare("a hum is not missed", 0, NONE, NONE, Edge.band("c0", "aa", 4, 0, 0));
        isSpare("that it was kept", 1, 0, NONE, Edge.band("h0;h0", "bb", 40, 2, 0));
        isSpare("one that must be", 1, 1, NONE, Edge.band("h0;h0", "ba", 4, 2, 0, 0, 1));
        isSpare("all of them", NONE, NONE, NONE, Edge.band("h0;h0", "ba;bb", 40, 2, 0));
        isSpare("no events", NONE, NONE, NONE, robbed(3, 0));
    }

    private static void spare() {
        Edge.of(22, "SPARE: how many (i = NONE), the i-th (0, 1; NONE); NONE.");
        BreathBand x = robbed(6, 2);
        isSpare("two", 2, 0, 1, x);
        Edge.is("they stay: count(4)", 2, x.count(4));
        Edge.is("they stay: heard(0)", 0, x.heard(0));
        x.back();
        isSpare("one", 1, 0, NONE, x);
        x.back();
        isSpare("none", 0, NONE, NONE, x);
        x.bag(1);
        isSpare("no way", NONE, NONE, NONE, x);
        Edge.of(22, "BAD.");
        for (int i : new int[] {-2, 2, Edge.FAR[0], Edge.FAR[1]}) {
            Edge.refused("spare(" + i + ")", BAD, Edge::busy, b -> b.spare(i));
        }
    }
}

/** Promises 19 to 22: fill, swap, hold, spare. */
public final class PlanTests {
    public static void main(String[] args) {
        refusals();
        fills();
        swaps();
        holds();
        spares();
        sparesThatFail();
        plansChangeNothing();
        Due.end();
    }

    private static void refusals() {
        BreathBand x = new BreathBand();
        Due.due("fill(-1)", BreathBand.BAD, x.fill(-1));
        Due.due("fill(2)", BreathBand.BAD, x.fill(2));
        Due.due("swap(-1)", BreathBand.BAD, x.swap(-1));
        Due.due("swap(3)", BreathBand.BAD, x.swap(3));
        Due.due("hold(-1)", BreathBand.BAD, x.hold(-1));
        Due.due("hold(2)", BreathBand.BAD, x.hold(2));
        Due.due("spare(-2)", BreathBand.BAD, x.spare(-2));
        Due.due("spare(2)", BreathBand.BAD, x.spare(2));
    }

    private static void dueFill(String what, int which, int many, BreathBand x) {
        Due.due(what + ": fill(0)", which, x.fill(0));
        Due.due(what + ": fill(1)", many, x.fill(1));
    }

    private static void fills() {
        dueFill("nobody", 1, 0, new BreathBand());
        BreathBand x = Due.band("t0", "aa;aa");
        dueFill("two of a tuba", 6, 2, x);
        x.event(0, 0);
        dueFill("and a theft", 9, 2, x);
        x.back();
        x.bag(3);
        dueFill("whatever is in it", 6, 2, x);
        dueFill("never in the right seat", 1, 0, Due.band("t0;t0", "ab"));
        dueFill("one is never there", 4, 1, Due.band("t0;t0", "ab;aa"));
        // the cornet takes 1 and 1, the corner 2, and the horn needs 2
        dueFill("as far as the corner", 6, 3, Due.band("h0;c0", "ab;bb;ca"));
        // the cornet takes 3, and the tuba needs 4
        dueFill("the loud one at the end", 7, 4, Due.band("c0;t1", "aa;aa;aa;bb"));
        dueFill("too far for 99", 2, 1, Due.band("h3", "aa;xa"));
        // nineteen times 5 round the corner, 3 by the theft, and the cornet needs 1
        BreathBand all = Due.band("c3", "ta");
        all.event(0, 0);
        dueFill("just 99", 99, 1, all);
        all.event(0, 0);
        dueFill("one theft too many", 1, 0, all);
    }

    private static void dueSwap(String what, int first, int other, int many, BreathBand x) {
        Due.due(what + ": swap(0)", first, x.swap(0));
        Due.due(what + ": swap(1)", other, x.swap(1));
        Due.due(what + ": swap(2)", many, x.swap(2));
    }

    private static void swaps() {
        dueSwap("nobody", -1, -1, -1, new BreathBand());
        dueSwap("one alone", -1, -1, -1, Due.band("h0", "aa"));
        dueSwap("two", 0, 1, 1, Due.band("t0;h0", "ab"));
        dueSwap("no better than as it is", 0, 1, 0, Due.band("h0;h0", "aa"));
        dueSwap("alike, the least row", 0, 1, 0, Due.band("h0;h0;h0", ""));
        dueSwap("the outer two", 0, 2, 1, Due.band("h0;h0;h0", "ac"));
        dueSwap("the latter two", 1, 2, 3, Due.band("h0;h0;h0", "aa;bc;cb"));
        BreathBand x = Due.band("h3;h0;h0", "bb");
        x.bag(3);
        Due.due("as it is", 0, x.sum(0));
        dueSwap("who lets go comes later", 0, 2, 1, x);
        // the cornet reaches from its new seat, not from its old one
        dueSwap("a cornet", 0, 1, 2, Due.band("h0;h0;c0;h0", "ab;dc"));
        dueSwap("eleven", 0, 10, 1, Due.band("h0;h0;h0;h0;h0;h0;h0;h0;h0;h0;h0", "ak"));
    }

    private static void dueHold(String what, int which, int many, BreathBand x) {
        Due.due(what + ": hold(0)", which, x.hold(0));
        Due.due(what + ": hold(1)", many, x.hold(1));
    }

    private static void holds() {
        dueHold("nobody", 0, 0, new BreathBand());
        BreathBand x = Due.band("h0;h0", "ba");
        dueHold("kept ahead of it", 0, 1, x);
        for (int e = 0; e < 8; e++) {
            x.event(0, 23);
        }
        dueHold("whatever room", 0, 1, x);
        dueHold("behind the first", 1, 3, Due.band("h0;h0", "aa;bb;cb"));
        dueHold("no better than as it is", 2, 3, Due.band("h0;h0", "aa;bb;ca"));
        dueHold("on the last beat", 23, 2, Due.band("h0;h0", "aa;xb"));
        BreathBand kept = Due.band("h0;h0", "ba");
        kept.event(2, 0);
        dueHold("kept already", 0, 1, kept);
    }

    private static void dueSpare(String what, int many, int first, int other, BreathBand x) {
        Due.due(what + ": spare(NONE)", many, x.spare(BreathBand.NONE));
        Due.due(what + ": spare(0)", first, x.spare(0));
        Due.due(what + ": spare(1)", other, x.spare(1));
    }

    private static BreathBand robbed(int bag, int thefts) {
        BreathBand x = Due.band("t0", "aa");
        x.bag(bag);
        for (int e = 0; e < thefts; e++) {
            x.event(0, 0);
        }
        return x;
    }

    private static void spares() {
        dueSpare("nobody", 0, -1, -1, new BreathBand());
        dueSpare("none missed", 0, -1, -1, robbed(7, 1));
        dueSpare("one", 1, 0, -1, robbed(6, 1));
        dueSpare("alike, the least", 1, 0, -1, robbed(9, 2));
        dueSpare("two", 2, 0, 1, robbed(6, 2));
        dueSpare("two of three", 2, 0, 1, robbed(9, 3));
        BreathBand x = Due.band("t0", "aa");
        x.bag(6);
        x.event(1, 5);
        x.event(0, 0);
        x.event(2, 5);
        dueSpare("the second", 1, 1, -1, x);
        x.event(0, 0);
        dueSpare("the second and the fourth", 2, 1, 3, x);
        BreathBand last = robbed(6, 0);
        for (int e = 0; e < 6; e++) {
            last.event(1, 9);
        }
        last.event(0, 0);
        last.event(0, 0);
        dueSpare("the last two", 2, 6, 7, last);
        BreathBand kept = Due.band("h0;h0", "bb");
        kept.event(2, 0);
        dueSpare("that it was kept", 1, 0, -1, kept);
        BreathBand frost = Due.band("h2;h0", "bb");
        frost.bag(4);
        frost.event(1, 0);
        dueSpare("a frost", 1, 0, -1, frost);
        dueSpare("of players that are there", 0, -1, -1, Due.band("h0", "aa;ab"));
    }

    private static void sparesThatFail() {
        dueSpare("three thefts too many", -1, -1, -1, robbed(9, 4));
        dueSpare("too little anyway", -1, -1, -1, robbed(3, 2));
        dueSpare("no events", -1, -1, -1, robbed(3, 0));
        dueSpare("one of two is never there", -1, -1, -1, Due.band("h0;h0", "aa;ab"));
    }

    private static void plansChangeNothing() {
        BreathBand x = Due.band("t1;h2;c0", "aa;bb;cc;da;eb;fc");
        x.bag(17);
        x.event(0, 1);
        x.event(2, 3);
        int sounds = x.sum(0);
        int left = x.at(10, 1);
        x.fill(0);
        x.swap(0);
        x.hold(0);
        x.spare(0);
        Due.due("sum(0) behind plans", sounds, x.sum(0));
        Due.due("at(10, 1) behind plans", left, x.at(10, 1));
        Due.due("count(4) behind plans", 2, x.count(4));
        Due.due("count(5) behind plans", 17, x.count(5));
        Due.due("player(0, 0) behind plans", 0, x.player(0, 0));
    }
}

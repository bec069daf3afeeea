/** Promises 36 and 37: count, digest. */
public final class CountTests {
    public static void main(String[] args) {
        counts();
        digests();
        digestsOfPlans();
        digestsTellStatesApart();
        Due.end();
    }

    private static void counts() {
        BreathBand x = Due.band("t1;h0;c3", "aa;bb");
        x.bag(33);
        x.event(0, 0);
        x.event(1, 1);
        x.event(2, 2);
        x.event(2, 3);
        x.hear(0, 2);
        x.lose(0);
        int[] due = {3, 2, 8, 5, 4, 33, 2, 1, 1};
        for (int what = 0; what < due.length; what++) {
            Due.due("count(" + what + ")", due[what], x.count(what));
        }
        Due.due("count(-1)", BreathBand.BAD, x.count(-1));
        Due.due("count(9)", BreathBand.BAD, x.count(9));
        x.bag(1);
        Due.due("count(6), with less", 0, x.count(6));
        x.type(0, ';');
        Due.due("count(0), with a fault", 0, x.count(0));
        Due.due("count(2), with a fault", 9, x.count(2));
        x.sheet(0, 0, -1);
        Due.due("count(8), the latest", 5, x.count(8));
    }

    private static void digests() {
        String[] players = {"", "t1", "h0;c3", "t1;h0;c2;h3", "t0;h0;c0;t1;h1;c1;t2;h2;c2;t3;h3", "t1;"};
        String[] notes = {"", "aa", "aa;ab;bb;bc;ca;cc;dd;ec;ea;ff;ga;hb;lc;xk;xd;kc", "aa;b"};
        for (String row : players) {
            for (String text : notes) {
                BreathBand x = Due.band(row, text);
                Model m = new Model();
                tell(m, 0, row);
                tell(m, 1, text);
                Due.due("digest() of " + row + " and " + text, m.digest(), x.digest());
                x.bag(20);
                m.bag(20);
                int[][] events = {{0, 1}, {1, 3}, {2, 2}, {2, 23}};
                for (int[] e : events) {
                    x.event(e[0], e[1]);
                    m.event(e[0], e[1]);
                }
                x.hear(0, 2);
                m.hear(0, 2);
                long digest = x.digest();
                Due.due("digest() later", m.digest(), digest);
                Due.due("digest() again", digest, x.digest());
            }
        }
    }

    /** Where twelve years' notes all sound, and where there are events to spare. */
    private static void digestsOfPlans() {
        BreathBand x = Due.band("c0", "aa");
        Model m = new Model();
        tell(m, 0, "c0");
        tell(m, 1, "aa");
        x.bag(99);
        m.bag(99);
        Due.due("twelve notes sound", 12, x.years(7, 12, 0));
        Due.due("digest() of a cornet alone", m.digest(), x.digest());
        x.bag(3);
        m.bag(3);
        for (int e = 0; e < 2; e++) {
            x.event(0, 0);
            m.event(0, 0);
        }
        Due.due("the first to spare", 0, x.spare(0));
        Due.due("digest() with one to spare", m.digest(), x.digest());
        x.bag(1);
        m.bag(1);
        Due.due("the other to spare", 1, x.spare(1));
        Due.due("digest() with two to spare", m.digest(), x.digest());
    }

    private static void tell(Model m, int text, String bytes) {
        for (int i = 0; i < bytes.length(); i++) {
            m.type(text, bytes.charAt(i));
        }
    }

    private static void digestsTellStatesApart() {
        BreathBand x = Due.band("t1;h0", "aa;bb");
        long at40 = x.digest();
        x.bag(41);
        Due.due("another bag, another digest", 1, x.digest() == at40 ? 0 : 1);
        x.bag(40);
        Due.due("the same state, the same digest", at40, x.digest());
        x.sheet(0, 0, 3);
        x.sheet(1, 0, -1);
        Due.due("sheets and findings are not in it", at40, x.digest());
        x.hear(0, 0);
        Due.due("what was heard is in it", 1, x.digest() == at40 ? 0 : 1);
    }
}

/** What a test shares: it prints each call whose answer is not the one that is due, and ends with exit code 1 if there was one. */
final class Due {
    private static int asked = 0;
    private static int wrong = 0;

    private Due() {
    }

    static void due(String call, long want, long got) {
        asked++;
        if (got != want) {
            wrong++;
            System.out.println(call + " answered " + got + ", due is " + want);
        }
    }

    static void dueText(String what, String want, String got) {
        asked++;
        if (!want.equals(got)) {
            wrong++;
            System.out.println(what + " is " + got + ", due is " + want);
        }
    }

    static int asked() {
        return asked;
    }

    static int wrong() {
        return wrong;
    }

    static void end() {
        System.out.println(asked + " answers, " + wrong + " not as due");
        if (wrong != 0 || asked == 0) {
            System.exit(1);
        }
    }

    /** A new band with these players and notes. */
    static BreathBand band(String players, String notes) {
        BreathBand x = new BreathBand();
        tell(x, 0, players);
        tell(x, 1, notes);
        return x;
    }

    static void tell(BreathBand x, int text, String bytes) {
        for (int i = 0; i < bytes.length(); i++) {
            x.type(text, bytes.charAt(i));
        }
    }

    /** The fault of such a text, in a new band. */
    static int faultOf(int text, String bytes) {
        BreathBand x = new BreathBand();
        tell(x, text, bytes);
        return x.fault(text);
    }

    static String row(int... items) {
        StringBuilder b = new StringBuilder();
        for (int item : items) {
            b.append(b.length() == 0 ? "" : " ").append(item);
        }
        return b.toString();
    }
}

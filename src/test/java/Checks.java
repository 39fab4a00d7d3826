/** What the tests share: towns from texts, answers compared, the exit code. */
final class Checks {
    private int wrong;
    private int made;

    /** A new object with this TEXT. */
    static WardFalls town(String text) {
        WardFalls x = new WardFalls();
        int lines = load(x, text);
        if (lines < 0) {
            throw new IllegalStateException("fault " + x.fault(0) + " at " + x.fault(1) + " of " + text);
        }
        return x;
    }

    static int load(WardFalls x, String text) {
        feed(x, text);
        return x.text(text.length());
    }

    /** Feeds these signs, with blanks behind them up to whole twenties. */
    static void feed(WardFalls x, String text) {
        for (int from = 0; from < text.length(); from += 20) {
            int[] fours = new int[5];
            for (int i = 0; i < 20; i++) {
                int sign = from + i < text.length() ? text.charAt(from + i) : ' ';
                fours[i / 4] = fours[i / 4] << 8 | sign;
            }
            x.feed(fours[0], fours[1], fours[2], fours[3], fours[4]);
        }
    }

    void due(String call, long got, long want) {
        made++;
        if (got != want) {
            wrong++;
            System.out.println(call + " answered " + got + ", due is " + want);
        }
    }

    void due(String call, boolean got, boolean want) {
        due(call, got ? 1 : 0, want ? 1 : 0);
    }

    /** A TEXT with this FAULT at this place. */
    void faulty(String text, int fault, int place) {
        WardFalls x = new WardFalls();
        due("text of " + text, load(x, text), -1);
        due("fault(0) of " + text, x.fault(0), fault);
        due("fault(1) of " + text, x.fault(1), place);
    }

    /** A TEXT without a FAULT. */
    void good(String text, int lines) {
        WardFalls x = new WardFalls();
        due("text of " + text, load(x, text), lines);
        due("fault(0) of " + text, x.fault(0), 0);
        due("fault(1) of " + text, x.fault(1), -1);
    }

    void end(String test) {
        System.out.println(test + ": " + made + " answers, " + wrong + " wrong");
        if (wrong > 0 || made == 0) {
            System.exit(1);
        }
    }
}

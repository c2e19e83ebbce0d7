/** What the tests share: comparing answers, and telling an object a text by its tape. */
final class Check {
    private final String title;
    private int compared;
    private int wrong;

    Check(String title) {
        this.title = title;
    }

    void same(String what, long got, long want) {
        compared++;
        if (got != want) {
            wrong++;
            if (wrong <= 20) {
                System.out.println(title + ": " + what + " answered " + got + ", due is " + want);
            }
        }
    }

    void yes(String what, boolean got) {
        same(what, got ? 1 : 0, 1);
    }

    void no(String what, boolean got) {
        same(what, got ? 1 : 0, 0);
    }

    /** How many answers were compared so far. */
    int compared() {
        return compared;
    }

    /** Ends the test: exit code 1 if an answer was wrong. */
    void finish() {
        if (wrong > 0) {
            System.out.println(title + ": " + wrong + " wrong");
            System.exit(1);
        }
    }

    /** Feeds a text without taking it. */
    static void feed(WakeSaver saver, String text) {
        int before = saver.count(8);
        for (int at = 0; at < text.length(); at += 20) {
            saver.feed(number(text, at), number(text, at + 4), number(text, at + 8),
                    number(text, at + 12), number(text, at + 16));
        }
        saver.end(before + text.length());
    }

    static int tell(WakeSaver saver, String text) {
        feed(saver, text);
        return saver.text();
    }

    static WakeSaver told(String text) {
        WakeSaver saver = new WakeSaver();
        if (tell(saver, text) == WakeSaver.NONE) {
            throw new IllegalStateException("fault " + saver.fault(0) + " at " + saver.fault(1) + ": " + text);
        }
        return saver;
    }

    private static int number(String text, int at) {
        int number = 0;
        for (int k = at; k < at + 4; k++) {
            number = number << 8 | (k < text.length() ? text.charAt(k) & 255 : ' ');
        }
        return number;
    }
}

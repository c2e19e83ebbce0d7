/** Promises 7, 8, 22 and 23: classes, their slacks, and what another slack would do. */
public final class ClassesTest {
    private static final Check CHECK = new Check("ClassesTest");
    private static final String FAMILY = "class a slack 5 weight 2;class b of a;class c of b slack 0;"
            + "class d of c weight 0;class e;class f of e weight 9;class g of b weight 3;"
            + "once a 1;once b 2;every b 10 3;once d 20;";

    public static void main(String[] args) {
        kinds();
        slackens();
        slackReachesCalls();
        wouldTell();
        wouldChangesNothing();
        enoughTells();
        CHECK.finish();
    }

    private static void row(WakeSaver saver, int kind, int... due) {
        for (int what = 0; what < due.length; what++) {
            CHECK.same("kind(" + kind + ", " + what + ")", saver.kind(kind, what), due[what]);
        }
    }

    private static void kinds() {
        WakeSaver saver = Check.told(FAMILY);
        row(saver, 0, -1, 5, 2, 5, 2, 1, 0b1000011, -1);
        row(saver, 1, 0, 5, 2, -1, -1, 2, 0);
        row(saver, 2, 1, 0, 2, 0, -1, 0, 0b1100);
        row(saver, 3, 2, 0, 0, -1, 0, 1, 0);
        row(saver, 4, -1, 0, 1, -1, -1, 0, 0);
        row(saver, 5, 4, 0, 9, -1, 9, 0, 0);
        row(saver, 6, 1, 5, 3, -1, 3, 0, 0, -1);
        row(saver, 7, -1, -1, -1, -1, -1, -1, -1);
        row(saver, -1, -1, -1, -1, -1, -1, -1, -1);
        CHECK.same("kind(0, -1)", saver.kind(0, -1), -1);
        CHECK.same("kind, great", saver.kind(Integer.MAX_VALUE, 0), -1);
    }

    private static void slackens() {
        WakeSaver saver = Check.told(FAMILY);
        CHECK.no("as it is", saver.slacken(0, 5));
        CHECK.no("none already", saver.slacken(1, -1));
        CHECK.no("-2", saver.slacken(0, -2));
        CHECK.no("100", saver.slacken(0, 100));
        CHECK.no("class 7", saver.slacken(7, 1));
        CHECK.no("class -1", saver.slacken(-1, 1));
        CHECK.yes("own like the parent's", saver.slacken(1, 5));
        row(saver, 0, -1, 5, 2, 5, 2, 1, 0b1);
        row(saver, 1, 0, 5, 2, 5, -1, 2, 0b1000010);
        CHECK.yes("none any more", saver.slacken(2, -1));
        row(saver, 3, 2, 5, 0, -1, 0, 1, 0);
        row(saver, 1, 0, 5, 2, 5, -1, 2, 0b1001110);
        CHECK.yes("none of the eldest", saver.slacken(0, -1));
        row(saver, 0, -1, 0, 2, -1, 2, 1, 0);
        CHECK.yes("99", saver.slacken(4, 99));
        row(saver, 5, 4, 99, 9, -1);
        CHECK.yes("0", saver.slacken(5, 0));
        row(saver, 5, 4, 0, 9, 0);
    }

    private static void slackReachesCalls() {
        WakeSaver saver = Check.told("class a slack 5;class b of a;every b 10 0;length 22;");
        CHECK.same("LATEST", saver.call(0, 1), 5);
        CHECK.same("ahead", saver.wakes(0), 3);
        CHECK.same("ROUND ahead", saver.round(2), 1);
        saver.slacken(0, 30);
        CHECK.same("LATEST then", saver.call(0, 1), 22);
        CHECK.same("then", saver.wakes(0), 1);
        CHECK.same("the only WAKE", saver.wake(0, 0), 22);
        saver.slacken(1, 0);
        CHECK.same("own one", saver.wakes(0), 3);
        CHECK.same("its first", saver.wake(0, 0), 0);
    }

    private static void wouldTell() {
        WakeSaver saver = Check.told("class a slack 5 weight 2;class b of a;once a 0;once b 4;"
                + "every b 10 3;length 20;price 10;stay 1;");
        CHECK.same("FEWEST", saver.would(0, 13, 0), 1);
        CHECK.same("FEWEST, 12", saver.would(0, 12, 0), 2);
        CHECK.same("COST as it is", saver.would(0, 5, 1), 30);
        CHECK.same("COST at once", saver.would(0, 0, 1), 40);
        CHECK.same("ENERGY at once", saver.would(0, 0, 2), 23);
        CHECK.same("ENERGY as it is", saver.would(0, 5, 2), 18);
        CHECK.same("ROUND", saver.would(0, 99, 3), 1);
        CHECK.same("what 4", saver.would(0, 5, 4), -1);
        CHECK.same("what -1", saver.would(0, 5, -1), -1);
        CHECK.same("slack -1", saver.would(0, -1, 0), -1);
        CHECK.same("slack 100", saver.would(0, 100, 3), -1);
        CHECK.same("class 2", saver.would(2, 5, 0), -1);
        CHECK.same("class -1", saver.would(-1, 5, 0), -1);
        WakeSaver once = Check.told("class a;once a 0;");
        CHECK.same("no ROUND", once.would(0, 5, 3), -1);
        CHECK.same("but FEWEST", once.would(0, 5, 0), 1);
        WakeSaver two = Check.told("class a;class b slack 9;every a 6 0;every b 6 3;");
        CHECK.same("ROUND of two", two.round(2), 1);
        CHECK.same("ROUND of two, less", two.would(1, 2, 3), 2);
        CHECK.same("ROUND of two, just", two.would(1, 3, 3), 1);
    }

    private static void wouldChangesNothing() {
        WakeSaver saver = Check.told(FAMILY);
        int wakes = saver.wakes(0);
        int round = saver.round(2);
        for (int slack = 0; slack < 100; slack += 9) {
            for (int what = 0; what < 4; what++) {
                saver.would(1, slack, what);
            }
        }
        saver.enough(0, 1);
        row(saver, 0, -1, 5, 2, 5, 2, 1, 0b1000011, -1);
        row(saver, 1, 0, 5, 2, -1, -1, 2, 0);
        CHECK.same("FEWEST", saver.wakes(0), wakes);
        CHECK.same("ROUND", saver.round(2), round);
        CHECK.same("LATEST", saver.call(0, 1), 6);
    }

    private static void enoughTells() {
        WakeSaver saver = Check.told("class a slack 5;class b of a;class c;once a 0;once b 50;once c 200;"
                + "length 300;");
        CHECK.same("n 3", saver.enough(0, 3), 0);
        CHECK.same("n great", saver.enough(0, Integer.MAX_VALUE), 0);
        CHECK.same("n 2", saver.enough(0, 2), 50);
        CHECK.same("n 1", saver.enough(0, 1), -1);
        CHECK.same("n 0", saver.enough(0, 0), -1);
        CHECK.same("n small", saver.enough(0, Integer.MIN_VALUE), -1);
        CHECK.same("of another class", saver.enough(2, 2), -1);
        CHECK.same("of another class, 3", saver.enough(2, 3), 0);
        CHECK.same("no class", saver.enough(3, 3), -1);
        CHECK.same("class -1", saver.enough(-1, 3), -1);
        WakeSaver edge = Check.told("class a;once a 0;once a 99;length 200;");
        CHECK.same("99 is enough", edge.enough(0, 1), 99);
        WakeSaver beyond = Check.told("class a;once a 0;once a 100;length 200;");
        CHECK.same("100 would be", beyond.enough(0, 1), -1);
        WakeSaver none = Check.told("class a;once a 61;");
        CHECK.same("without CALLS", none.enough(0, 0), 0);
        CHECK.same("without CALLS, -1", none.enough(0, -1), -1);
    }
}

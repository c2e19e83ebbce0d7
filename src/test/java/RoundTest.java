/** Promises 20 and 21: wakes that go round for ever. */
public final class RoundTest {
    private static final Check CHECK = new Check("RoundTest");

    public static void main(String[] args) {
        rounds();
        lengthCutsNothing();
        noRound();
        wrongInputs();
        CHECK.finish();
    }

    private static void round(String text, int hyper, int calls, int... wakes) {
        WakeSaver saver = Check.told(text);
        CHECK.same("HYPER of " + text, saver.round(0), hyper);
        CHECK.same("CALLS of " + text, saver.round(1), calls);
        CHECK.same("WAKES of " + text, saver.round(2), wakes.length);
        CHECK.same("p of " + text, saver.round(3), wakes[0]);
        for (int k = 0; k < wakes.length; k++) {
            CHECK.same("roundAt(" + k + ") of " + text, saver.roundAt(k), wakes[k]);
        }
        CHECK.same("behind the last of " + text, saver.roundAt(wakes.length), -1);
        CHECK.same("ahead of the first of " + text, saver.roundAt(-1), -1);
    }

    private static void rounds() {
        round("class a;every a 1 0;", 1, 1, 0);
        round("class a;every a 10 3;", 10, 1, 3);
        // 3-8: of all p but 3 to 8 there would be a wake more
        round("class a slack 5;every a 10 3;", 10, 1, 3);
        round("class a slack 99;every a 10 3;", 10, 1, 0);
        // 9-11 goes on behind the end: p 0 answers it, 10 and 11 come behind it
        round("class a slack 2;every a 10 9;", 10, 1, 0);
        round("class a;every a 6 0;every a 4 1;", 12, 5, 0, 1, 5, 6, 9);
        // 1-3 5-7 9-11 and 0-1 6-7
        round("class a slack 2;class c slack 1;every a 4 1;every c 6 0;", 12, 5, 1, 7, 11);
        // 290 is 2 modulo 6
        round("class a;every a 6 290;", 6, 1, 2);
        round("class a slack 1;every a 2 0;every a 3 0;", 6, 5, 0, 3, 5);
        round("class a;once a 1;every a 7 0;once a 2;", 7, 1, 0);
    }

    private static void lengthCutsNothing() {
        round("class a slack 9;every a 20 0;every a 20 9;length 3;", 20, 2, 9);
        round("class a;every a 5 300;length 3;", 5, 1, 0);
    }

    private static void none(String text) {
        WakeSaver saver = Check.told(text);
        for (int what = 0; what < 4; what++) {
            CHECK.same("round(" + what + ") of " + text, saver.round(what), -1);
        }
        CHECK.same("roundAt(0) of " + text, saver.roundAt(0), -1);
    }

    private static void noRound() {
        none("");
        none("class a;once a 0;");
        none("class a;every a 59 0;every a 60 0;");
        none("class a;every a 49 0;every a 8 0;");
        none("class a;every a 59 0;every a 58 0;every a 57 0;every a 55 0;every a 53 0;every a 49 0;"
                + "every a 47 0;every a 43 0;every a 41 0;every a 37 0;every a 31 0;every a 29 0;");
        WakeSaver just = Check.told("class a;every a 40 0;every a 45 0;");
        CHECK.same("HYPER 360", just.round(0), 360);
        CHECK.same("its CALLS", just.round(1), 17);
        // 360, 15, 8, 9, and 8 or 9
        String most = "class a;every a 1 61;every a 24 61;every a 45 61;every a 40 61;";
        CHECK.same("401 CALLS", Check.told(most + "every a 40 61;").round(1), -1);
        WakeSaver full = Check.told(most + "every a 45 61;");
        CHECK.same("400 CALLS", full.round(1), 400);
        CHECK.same("a wake each tick", full.round(2), 360);
        CHECK.same("from 0 on", full.round(3), 0);
        CHECK.same("to the last", full.roundAt(359), 359);
    }

    private static void wrongInputs() {
        WakeSaver saver = Check.told("class a;every a 6 0;");
        for (int bad : new int[] {-1, 4, Integer.MIN_VALUE, Integer.MAX_VALUE}) {
            CHECK.same("round(" + bad + ")", saver.round(bad), -1);
            CHECK.same("roundAt(" + bad + ")", saver.roundAt(bad), -1);
        }
    }
}

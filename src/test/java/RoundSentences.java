/** Term 4 and Promises 20 and 21: wakes that go round for ever. */
final class RoundSentences extends Sentences {
    // 360, 15, 8 and 9 CALLS by HYPER; without any of THE CALLS
    private static final String MANY = "class a;every a 1 61;every a 24 61;every a 45 61;every a 40 61;";

    RoundSentences(Check check) {
        super(check);
    }

    @Override
    void hold() {
        term(4, "ROUND: EVERY TIMERS alone,", this::everyTimersAlone);
        term(4, "for ever from long ago on to long hence:", this::forEver);
        term(4, "CALLS with FROM the TICK and any number of PERIODS from it", this::anyNumberOfPeriods);
        term(4, "(LENGTH doesn't cut LATEST).", this::lengthCutsNothing);
        term(4, "HYPER: the least number that all PERIODS divide.", this::hypers);
        term(4, "A ROUND of WAKES comes again by HYPER.", this::comesAgain);
        term(4, "ROUND for a TICK p (0 to HYPER less 1): a WAKE at p;", this::wakeAtP);
        term(4, "then each as late as can be so that all CALLS with FROM behind p are KEPT,", this::eachAsLate);
        term(4, "till p and HYPER (which is p again, and answers what is there).", this::tillPAgain);
        term(4, "The ROUND: of these the one of the fewest WAKES,", this::fewestOfThese);
        term(4, "of like ones that of the least p.", this::leastP);
        term(4, "NONE, if there are no EVERY TIMERS,", this::noEveryTimers);
        term(4, "HYPER is above 360,", this::hyperAbove360);
        term(4, "or there would be more than 400 CALLS by HYPER.", this::moreThan400Calls);
        promise(20, "Of the ROUND, what 0: HYPER, 1: CALLS by HYPER, 2: how many WAKES, 3: p.", this::roundTells);
        promise(20, "NONE: there is none,", this::roundOfNone);
        promise(20, "another what.", this::roundOfAnotherWhat);
        promise(21, "The k-th WAKE of the ROUND, from p on, modulo HYPER.", this::roundAtTells);
        promise(21, "NONE: not so many,", this::notSoMany);
        promise(21, "there is none.", this::roundAtOfNone);
    }

    private void everyTimersAlone() {
        round("class a;once a 1;every a 7 0;once a 2;", 7, 1, 0);
        round("class a;class b slack 3;once a 1;every b 7 0;once a 2;every b 7 3;", 7, 2, 3);
    }

    private void forEver() {
        // long ahead of its TICK, too: 290 is 2 modulo 6
        round("class a;every a 6 290;", 6, 1, 2);
        round("class a;every a 5 300;length 3;", 5, 1, 0);
        round("class a;every a 60 59;", 60, 1, 59);
    }

    private void anyNumberOfPeriods() {
        round("class a;every a 6 0;every a 4 1;", 12, 5, 0, 1, 5, 6, 9);
        round("class a;every a 6 300;every a 4 297;", 12, 5, 0, 1, 5, 6, 9);
        round("class a;every a 6 5;every a 4 3;", 12, 5, 3, 5, 7, 11);
    }

    private void lengthCutsNothing() {
        round("class a slack 9;every a 20 0;every a 20 9;length 3;", 20, 2, 9);
        round("class a slack 9;every a 20 0;every a 20 9;length 300;", 20, 2, 9);
        round("class a slack 9;every a 20 0;every a 20 10;length 1;", 20, 2, 0, 19);
    }

    private void hypers() {
        int[][] due = {{1, 1, 1}, {60, 60, 60}, {6, 4, 12}, {4, 6, 12}, {30, 60, 60}, {60, 30, 60}, {7, 5, 35},
            {45, 40, 360}, {36, 40, 360}};
        for (int[] it : due) {
            String text = "class a;every a " + it[0] + " 0;every a " + it[1] + " 0;";
            same("HYPER of " + text, Check.told(text).round(0), it[2]);
        }
        same("of three", Check.told("class a;every a 4 0;every a 6 0;every a 10 0;").round(0), 60);
    }

    private void comesAgain() {
        // 9-11 goes on behind HYPER
        round("class a slack 2;every a 10 9;", 10, 1, 0);
        // 11-14 and 2-5: one WAKE from 11 to 14 answers the first, and it is 2 again
        round("class a slack 3;every a 12 11;every a 12 2;", 12, 2, 2);
        round("class a slack 2;every a 12 11;every a 12 2;", 12, 2, 0, 4);
    }

    private void wakeAtP() {
        round("class a;every a 1 0;", 1, 1, 0);
        round("class a;every a 10 0;", 10, 1, 0);
        round("class a;every a 10 9;", 10, 1, 9);
        round("class a;every a 10 3;", 10, 1, 3);
    }

    private void eachAsLate() {
        // 1-3 5-7 9-11 and 0-1 6-7
        round("class a slack 2;class c slack 1;every a 4 1;every c 6 0;", 12, 5, 1, 7, 11);
        // 0-1, 2-3, 4-5 and 0-1, 3-4
        round("class a slack 1;every a 2 0;every a 3 0;", 6, 5, 0, 3, 5);
        // p answers what comes at p; 0-4 behind it is due at 16
        round("class a slack 4;class b;every a 12 0;every b 12 6;", 12, 2, 0, 6);
        // as late as can be: 10, not 6
        round("class a slack 4;class b;every a 20 6;every b 20 0;", 20, 2, 0, 10);
    }

    private void tillPAgain() {
        // due just at p again, or behind it
        round("class a slack 1;every a 10 9;", 10, 1, 0);
        round("class a;every a 10 9;", 10, 1, 9);
        round("class a slack 99;every a 10 3;", 10, 1, 0);
        round("class a slack 7;every a 10 3;", 10, 1, 0);
        round("class a slack 6;every a 10 3;", 10, 1, 3);
        round("class a slack 99;every a 1 0;", 1, 1, 0);
        round("class a slack 99;every a 60 0;every a 60 30;", 60, 2, 0);
    }

    private void fewestOfThese() {
        // by 0 there would be two
        round("class a slack 5;every a 10 3;", 10, 1, 3);
        round("class a;class b slack 3;every a 6 0;every b 6 3;", 6, 2, 0);
        round("class a;class b slack 2;every a 6 0;every b 6 3;", 6, 2, 0, 5);
    }

    private void leastP() {
        round("class a slack 5;every a 10 3;", 10, 1, 3);
        round("class a slack 99;every a 10 3;", 10, 1, 0);
        round("class a;every a 10 3;every a 10 7;", 10, 2, 3, 7);
        round("class a slack 1;every a 5 1;", 5, 1, 1);
    }

    private void noEveryTimers() {
        noRound("");
        noRound("class a;");
        noRound("class a;once a 0;once a 300;");
        same("of a new object", new WakeSaver().round(0), NONE);
    }

    private void hyperAbove360() {
        WakeSaver just = Check.told("class a;every a 40 0;every a 45 0;");
        same("HYPER 360", just.round(0), 360);
        same("its CALLS", just.round(1), 17);
        same("its WAKES", just.round(2), 16);
        noRound("class a;every a 7 0;every a 52 0;");
        noRound("class a;every a 59 0;every a 60 0;");
        noRound("class a;every a 40 0;every a 45 0;every a 7 0;");
        noRound("class a;every a 1 0;every a 59 0;every a 60 0;every a 1 0;");
        noRound("class a;every a 59 0;every a 58 0;every a 57 0;every a 55 0;every a 53 0;every a 49 0;"
                + "every a 47 0;every a 43 0;every a 41 0;every a 37 0;every a 31 0;every a 29 0;");
    }

    private void moreThan400Calls() {
        WakeSaver full = Check.told(MANY + "every a 45 61;");
        same("400 CALLS", full.round(1), 400);
        same("a WAKE each TICK", full.round(2), 360);
        same("from 0 on", full.round(3), 0);
        same("to the last", full.roundAt(359), 359);
        same("and no more", full.roundAt(360), NONE);
        noRound(MANY + "every a 40 61;");
    }

    private void roundTells() {
        WakeSaver saver = Check.told("class a slack 2;class c slack 1;every a 4 1;every c 6 0;");
        int[] due = {12, 5, 3, 1};
        for (int what = 0; what < due.length; what++) {
            same("round(" + what + ")", saver.round(what), due[what]);
        }
        saver.slacken(0, 99);
        saver.slacken(1, 99);
        same("by another SLACK", saver.round(2), 1);
        same("its p", saver.round(3), 0);
    }

    private void roundOfNone() {
        noRound("class a;once a 0;");
        noRound("class a;every a 59 0;every a 60 0;");
        noRound(MANY + "every a 40 61;");
        WakeSaver saver = Check.told("class a;every a 6 0;");
        same("there is one", saver.round(0), 6);
        Check.tell(saver, "class a;once a 0;");
        same("and none any more", saver.round(0), NONE);
    }

    private void roundOfAnotherWhat() {
        WakeSaver saver = Check.told("class a;every a 6 0;");
        for (int what : new int[] {4, 5, -1, LEAST, MOST}) {
            same("round(" + what + ")", saver.round(what), NONE);
        }
    }

    private void roundAtTells() {
        WakeSaver saver = Check.told("class a slack 2;class c slack 1;every a 4 1;every c 6 0;");
        same("roundAt(0) is p", saver.roundAt(0), saver.round(3));
        same("roundAt(1)", saver.roundAt(1), 7);
        same("roundAt(2)", saver.roundAt(2), 11);
        WakeSaver just = Check.told("class a;every a 40 39;every a 45 44;");
        same("the last WAKE", just.roundAt(just.round(2) - 1), 359);
    }

    private void notSoMany() {
        WakeSaver saver = Check.told("class a slack 2;class c slack 1;every a 4 1;every c 6 0;");
        for (int k : new int[] {3, 4, -1, LEAST, MOST}) {
            same("roundAt(" + k + ")", saver.roundAt(k), NONE);
        }
    }

    private void roundAtOfNone() {
        for (String text : new String[] {"", "class a;once a 0;", "class a;every a 59 0;every a 60 0;"}) {
            WakeSaver saver = Check.told(text);
            for (int k : new int[] {0, 1, -1, LEAST, MOST}) {
                same("roundAt(" + k + ") of " + text, saver.roundAt(k), NONE);
            }
        }
        same("of a new object", new WakeSaver().roundAt(0), NONE);
    }
}

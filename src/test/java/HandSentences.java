/** Term 3 as far as it is by hand, and Promises 15 to 19: rules, ticks, rung calls, hindsight. */
final class HandSentences extends Sentences {
    private static final String TEXT = "class a slack 5 weight 2;class b of a;once a 0;once b 4;every b 10 3;"
            + "length 20;price 10;stay 1;";

    HandSentences(Check check) {
        super(check);
    }

    @Override
    void hold() {
        term(3, "BY HAND: NOW is a TICK, 0 at first:", this::nowIs0AtFirst);
        term(3, "CALLS that come then are there, but it did not WAKE then yet.", this::callsOfNowAreThere);
        term(3, "go(): it WAKES by RULE at NOW (2 at first), NOW is the next TICK, CALLS come.", this::oneTick);
        term(3, "Each CALL is laid when it comes, LATEST and WEIGHT by CLASSES as they are then.",
                this::laidWhenTheyCome);
        term(3, "Calls may be RUNG, too, of any CLASS, at NOW.", this::rungOfAnyClass);
        term(3, "NOW is LENGTH and 1 at the end.", this::nowAtTheEnd);
        term(3, "HINDSIGHT: CHEAPEST of all CALLS that came till now, as they were laid.", this::hindsight);
        promise(15, "RULE is another one: true.", this::anotherRule);
        promise(15, "false: it is that,", this::ruleIsThat);
        promise(15, "it can't be.", this::ruleCantBe);
        promise(16, "So many TICKS, 1 to 300, by RULE,", this::soManyTicks);
        promise(16, "but not beyond the end:", this::notBeyondTheEnd);
        promise(16, "how many WAKES there were.", this::wakesThereWere);
        promise(16, "NONE: another number,", this::goOfAnotherNumber);
        promise(16, "it is the end.", this::goAtTheEnd);
        promise(17, "A CALL of a CLASS is RUNG at NOW: its LATEST", this::rung);
        promise(17, "(it is ANSWERED at once, if it did WAKE at NOW).", this::rungInAWake);
        promise(17, "NONE: there is none such,", this::ringOfNoClass);
        promise(17, "it is the end,", this::ringAtTheEnd);
        promise(17, "100 were RUNG.", this::rung100);
        promise(18, "It WAKES at NOW, whatever RULE says", this::wakesAtNow);
        promise(18, "(by RULE no more then):", this::byRuleNoMore);
        promise(18, "how many CALLS it answers.", this::callsItAnswers);
        promise(18, "NONE: nothing is there to be ANSWERED.", this::nothingIsThere);
        holdHand();
    }

    private void holdHand() {
        promise(19, "By hand, what 0: CALLS that came, 1: those not ANSWERED,", this::handCalls);
        promise(19, "2: WAKES, 3: COST of these and all WAITS of those that are ANSWERED,", this::handCost);
        promise(19, "4: WAITS of the others, were they ANSWERED at NOW,", this::handWaits);
        promise(19, "5: the least LATEST of the others (NONE),", this::handLatest);
        promise(19, "6: the latest WAKE (NONE),", this::handWake);
        promise(19, "7: HINDSIGHT's COST, 8: its WAKES.", this::handHindsight);
        promise(19, "NONE for another what.", this::handOfAnotherWhat);
    }

    // ---- Term 3: by hand

    private void nowIs0AtFirst() {
        same("of a new object", new WakeSaver().count(6), 0);
        same("of a text", Check.told(TEXT).count(6), 0);
    }

    private void callsOfNowAreThere() {
        hands("at 0", Check.told(TEXT), 1, 1, 0, 0, 0, 5, NONE, 10, 1);
        WakeSaver saver = Check.told("class a;once a 0;once a 0;once a 1;length 1;");
        hands("LATEST is NOW", saver, 2, 2, 0, 0, 0, 0, NONE, 10, 1);
        saver.go(1);
        hands("at LENGTH", saver, 3, 1, 1, 10, 0, 1, 0, 20, 2);
        saver.go(1);
        hands("at the end", saver, 3, 0, 2, 20, 0, NONE, 1, 20, 2);
    }

    private void oneTick() {
        WakeSaver saver = Check.told("class a;class b slack 9 weight 2;once a 0;once b 1;once a 2;price 3;");
        same("RULE", saver.count(7), 2);
        same("WAKES at 0", saver.go(1), 1);
        same("NOW", saver.count(6), 1);
        hands("what comes then is there", saver, 2, 1, 1, 3, 0, 10, 0);
        same("2 are no more than 3", saver.go(1), 0);
        hands("at 2", saver, 3, 2, 1, 3, 2, 2, 0);
        same("WAKES at 2", saver.go(1), 1);
        hands("at 3", saver, 3, 0, 2, 8, 0, NONE, 2);
        for (int rule = 0; rule < 3; rule++) {
            WakeSaver live = Check.told(TEXT);
            live.rule(rule);
            same("WAKES like LIVE by RULE " + rule, live.go(21), live.wakes(3 + rule));
            same("COST like LIVE by RULE " + rule, live.hand(3), live.price(3 + rule, 0));
        }
    }

    private void laidWhenTheyCome() {
        WakeSaver saver = Check.told("class a slack 5;once a 0;once a 1;once a 2;price 99;");
        saver.slacken(0, 30);
        same("laid at first", saver.hand(5), 5);
        saver.go(1);
        saver.slacken(0, 1);
        same("LATEST stays", saver.hand(5), 5);
        saver.go(1);
        same("laid by the class then", saver.hand(5), 3);
        same("THE CALLS are by the class now", saver.call(0, 1), 1);
        same("woken for the last", saver.go(300), 1);
        same("at its LATEST", saver.hand(6), 3);
        same("HINDSIGHT as laid", saver.hand(8), 1);
        same("CHEAPEST as they are", saver.wakes(1), 2);
        WakeSaver heir = Check.told("class a slack 5 weight 4;class b of a;once b 0;once b 2;price 99;length 4;");
        heir.slacken(0, -1);
        heir.go(2);
        hands("WEIGHT by inheriting", heir, 2, 2, 0, 0, 8, 2);
        WakeSaver cut = Check.told("class a;once a 3;price 99;length 4;");
        cut.slacken(0, 99);
        cut.go(3);
        same("LENGTH at most", cut.hand(5), 4);
    }

    private void rungOfAnyClass() {
        WakeSaver saver = Check.told("class a slack 5;class b of a weight 9;class c slack 2;once a 1;price 99;"
                + "length 8;");
        same("of a", saver.ring(0), 5);
        same("of b", saver.ring(1), 5);
        same("of c", saver.ring(2), 2);
        hands("at 0", saver, 3, 3, 0, 0, 0, 2);
        saver.go(1);
        hands("at 1, with their WEIGHT", saver, 4, 4, 0, 0, 1 + 9 + 1, 2);
        same("THE CALLS stay", saver.count(2), 1);
        same("and plans", saver.wakes(0), 1);
    }

    private void nowAtTheEnd() {
        WakeSaver least = Check.told("length 1;");
        same("two TICKS", least.go(300), 0);
        same("the end of 1", least.count(6), 2);
        WakeSaver most = Check.told("length 300;");
        same("300 TICKS", most.go(300), 0);
        same("not the end yet", most.count(6), 300);
        same("the last TICK", most.go(300), 0);
        same("the end of 300", most.count(6), 301);
        same("and no further", most.go(300), NONE);
        same("still", most.count(6), 301);
        WakeSaver untold = new WakeSaver();
        untold.go(300);
        same("the end of a new object", untold.count(6), 61);
    }

    private void hindsight() {
        WakeSaver saver = Check.told("class a slack 9;once a 1;price 4;");
        hands("nothing came", saver, 0, 0, 0, 0, 0, NONE, NONE, 0, 0);
        saver.rule(0);
        saver.go(1);
        hands("what comes NOW came", saver, 1, 1, 0, 0, 0, 10, NONE, 4, 1);
        saver.go(2);
        hands("one came", saver, 1, 0, 1, 4, 0, NONE, 1, 4, 1);
        saver.ring(0);
        hands("a RUNG one, too", saver, 2, 1, 1, 4, 0, 12, 1, 6, 1);
        saver.go(3);
        saver.ring(0);
        hands("another one", saver, 3, 1, 2, 8, 0, 15, 3, 10, 2);
        saver.slacken(0, 0);
        hands("as they were laid", saver, 3, 1, 2, 8, 0, 15, 3, 10, 2);
        saver.ring(0);
        hands("laid with 0", saver, 4, 2, 2, 8, 0, 6, 3, 10, 2);
        WakeSaver full = Check.told("class a slack 99;every a 1 0;length 199;price 99;");
        for (int k = 0; k < 100; k++) {
            full.ring(0);
        }
        full.go(300);
        same("300 CALLS", full.hand(0), 300);
        full.slacken(0, 0);
        yes("HINDSIGHT of 300", full.hand(8) >= 2 && full.hand(8) < 200);
        yes("no dearer than what was done", full.hand(7) <= full.hand(3));
        WakeSaver apart = Check.told("class a;every a 1 101;length 300;");
        for (int k = 0; k < 100; k++) {
            apart.ring(0);
            apart.go(1);
        }
        apart.go(300);
        same("WAKES of 300 apart", apart.hand(8), 300);
        same("COST of 300 apart", apart.hand(7), 3000);
    }

    // ---- Promise 15: rule

    private void anotherRule() {
        WakeSaver saver = Check.told(TEXT);
        yes("1", saver.rule(1));
        same("count(7)", saver.count(7), 1);
        same("by RULE 1", saver.go(5), 0);
        same("at LATEST", saver.go(1), 1);
        yes("0", saver.rule(0));
        same("count(7), 0", saver.count(7), 0);
        same("by RULE 0", saver.go(8), 1);
        same("at FROM", saver.hand(6), 13);
        yes("2 again", saver.rule(2));
        same("count(7), 2", saver.count(7), 2);
        saver.go(300);
        yes("at the end, too", saver.rule(0));
    }

    private void ruleIsThat() {
        WakeSaver saver = Check.told(TEXT);
        no("2 at first", saver.rule(2));
        saver.rule(1);
        no("1 already", saver.rule(1));
        saver.rule(0);
        no("0 already", saver.rule(0));
        same("count(7)", saver.count(7), 0);
        no("2 of a new object", new WakeSaver().rule(2));
    }

    private void ruleCantBe() {
        WakeSaver saver = Check.told(TEXT);
        for (int rule : new int[] {3, 4, -1, LEAST, MOST}) {
            no("rule(" + rule + ")", saver.rule(rule));
            same("stays", saver.count(7), 2);
        }
        stays(saver, () -> saver.rule(3));
    }

    // ---- Promise 16: go

    private void soManyTicks() {
        WakeSaver saver = Check.told("class a slack 5;every a 20 0;length 300;price 99;");
        same("go(1)", saver.go(1), 0);
        same("NOW 1", saver.count(6), 1);
        same("go(4)", saver.go(4), 0);
        same("NOW 5", saver.count(6), 5);
        same("go(1) at LATEST", saver.go(1), 1);
        same("go(294)", saver.go(294), 14);
        same("NOW 300", saver.count(6), 300);
        WakeSaver most = Check.told("class a;every a 20 0;length 300;");
        same("go(300)", most.go(300), 15);
        same("NOW by it", most.count(6), 300);
    }

    private void notBeyondTheEnd() {
        WakeSaver saver = Check.told(TEXT);
        same("go(300) of 21", saver.go(300), 2);
        same("NOW", saver.count(6), 21);
        WakeSaver just = Check.told(TEXT);
        same("go(21)", just.go(21), 2);
        same("NOW, just", just.count(6), 21);
        WakeSaver one = Check.told("class a;once a 20;length 20;");
        same("go(20)", one.go(20), 0);
        same("go(2) of 1", one.go(2), 1);
        same("NOW, one", one.count(6), 21);
    }

    private void wakesThereWere() {
        WakeSaver saver = Check.told("class a;every a 3 1;length 11;");
        same("go(1)", saver.go(1), 0);
        same("go(1) again", saver.go(1), 1);
        same("now() counts for itself", saver.hand(2), 1);
        same("go(2)", saver.go(2), 0);
        same("now()", saver.now(), 1);
        same("not that of now()", saver.go(1), 0);
        same("go(300)", saver.go(300), 2);
        same("all in all", saver.hand(2), 4);
        WakeSaver full = Check.told("class a;every a 1 0;length 199;");
        same("200 WAKES", full.go(300), 200);
    }

    private void goOfAnotherNumber() {
        WakeSaver saver = Check.told(TEXT);
        for (int n : new int[] {0, -1, 301, LEAST, MOST}) {
            same("go(" + n + ")", saver.go(n), NONE);
        }
        stays(saver, () -> saver.go(301));
        same("NOW stays", saver.count(6), 0);
    }

    private void goAtTheEnd() {
        WakeSaver saver = Check.told(TEXT);
        saver.go(20);
        same("the last TICK", saver.go(1), 0);
        same("go(1)", saver.go(1), NONE);
        same("go(300)", saver.go(300), NONE);
        same("go(0)", saver.go(0), NONE);
        stays(saver, () -> saver.go(1));
        same("NOW stays", saver.count(6), 21);
    }

    // ---- Promise 17: ring

    private void rung() {
        WakeSaver saver = Check.told(TEXT);
        same("at 0", saver.ring(0), 5);
        saver.go(15);
        same("at 15", saver.ring(0), 20);
        saver.go(1);
        same("at 16, LENGTH at most", saver.ring(1), 20);
        saver.go(4);
        same("at LENGTH", saver.ring(1), 20);
        same("it is open", saver.hand(1), 1);
        same("WAKES for it", saver.go(1), 1);
        saver = Check.told(TEXT);
        saver.slacken(0, 0);
        same("SLACK 0", saver.ring(1), 0);
        saver.slacken(0, 99);
        same("SLACK 99", saver.ring(1), 20);
        hands("as they were laid", saver, 3, 3, 0, 0, 0, 0, NONE, 10, 1);
        // 16: 4 x 2 and 1 x 2 are just 10 in the next TICK; 17: more
        saver = Check.told(TEXT);
        saver.go(16);
        saver.ring(1);
        hands("RUNG", saver, 5, 2, 1, 20, 6, 18, 4, 36, 2);
        same("go(1)", saver.go(1), 0);
        same("go(1) again", saver.go(1), 1);
        hands("at 18", saver, 5, 0, 2, 40, 0, NONE, 17, 36, 2);
    }

    private void rungInAWake() {
        WakeSaver saver = Check.told(TEXT);
        same("now", saver.now(), 1);
        same("ring", saver.ring(0), 5);
        hands("ANSWERED at once", saver, 2, 0, 1, 10, 0, NONE, 0, 10, 1);
        same("go", saver.go(1), 0);
        same("ring behind it", saver.ring(0), 6);
        same("is open", saver.hand(1), 1);
        saver = Check.told("class a;once a 0;");
        same("woken by RULE", saver.go(1), 1);
        saver.ring(0);
        same("NOW is the next TICK then", saver.hand(1), 1);
        WakeSaver end = Check.told("class a;once a 5;length 5;");
        end.go(5);
        end.now();
        same("at LENGTH", end.ring(0), 5);
        same("ANSWERED", end.hand(1), 0);
    }

    private void ringOfNoClass() {
        WakeSaver saver = Check.told(TEXT);
        for (int kind : new int[] {2, 3, -1, LEAST, MOST}) {
            same("ring(" + kind + ")", saver.ring(kind), NONE);
        }
        stays(saver, () -> saver.ring(2));
        same("nothing came", saver.hand(0), 1);
        same("of a new object", new WakeSaver().ring(0), NONE);
    }

    private void ringAtTheEnd() {
        WakeSaver saver = Check.told(TEXT);
        saver.go(20);
        same("at LENGTH", saver.ring(0), 20);
        saver.go(1);
        same("at the end", saver.ring(0), NONE);
        stays(saver, () -> saver.ring(0));
        same("nothing came", saver.hand(0), 5);
        WakeSaver most = Check.told("class a slack 99;length 300;");
        most.go(300);
        same("at 300", most.ring(0), 300);
        most.go(1);
        same("at 301", most.ring(0), NONE);
    }

    private void rung100() {
        WakeSaver saver = Check.told("class a slack 99;every a 1 0;length 199;price 99;");
        same("of no CLASS", saver.ring(1), NONE);
        for (int k = 0; k < 99; k++) {
            same("ring " + k, saver.ring(0), 99);
        }
        saver.go(1);
        same("the 100th", saver.ring(0), 100);
        same("the 101st", saver.ring(0), NONE);
        saver.go(1);
        same("in another TICK", saver.ring(0), NONE);
        stays(saver, () -> saver.ring(0));
        same("CALLS", saver.hand(0), 3 + 100);
        saver.go(300);
        same("CALLS at the end", saver.hand(0), 300);
        Check.tell(saver, "class a;");
        same("anew", saver.ring(0), 0);
    }

    // ---- Promise 18: now

    private void wakesAtNow() {
        for (int rule = 0; rule < 3; rule++) {
            WakeSaver saver = Check.told(TEXT);
            saver.rule(rule);
            same("by RULE " + rule, saver.now(), 1);
            hands("woken by RULE " + rule, saver, 1, 0, 1, 10, 0, NONE, 0, 10, 1);
        }
        WakeSaver last = Check.told("class a slack 9;once a 0;length 9;price 99;");
        last.go(9);
        same("at LENGTH", last.now(), 1);
        hands("at LENGTH", last, 1, 0, 1, 108, 0, NONE, 9, 99, 1);
    }

    private void byRuleNoMore() {
        for (int rule = 0; rule < 3; rule++) {
            WakeSaver saver = Check.told("class a;once a 0;once a 0;");
            saver.rule(rule);
            same("now", saver.now(), 2);
            saver.ring(0);
            same("go by RULE " + rule, saver.go(1), 0);
            same("one WAKE", saver.hand(2), 1);
        }
    }

    private void callsItAnswers() {
        WakeSaver saver = Check.told(TEXT);
        saver.rule(1);
        saver.go(4);
        same("three", saver.now(), 3);
        saver.go(1);
        saver.ring(0);
        saver.ring(1);
        same("two RUNG ones", saver.now(), 2);
        WakeSaver full = Check.told("class a slack 99;" + "every a 7 4;".repeat(22) + "every a 60 0;price 99;");
        full.slacken(0, 60);
        full.rule(1);
        for (int k = 0; k < 100; k++) {
            full.ring(0);
        }
        full.go(60);
        same("300", full.now(), 300);
    }

    private void nothingIsThere() {
        WakeSaver saver = Check.told(TEXT);
        saver.now();
        same("again", saver.now(), NONE);
        same("no WAKE by it", saver.hand(2), 1);
        stays(saver, () -> saver.now());
        saver.ring(0);
        same("what was RUNG is ANSWERED", saver.now(), NONE);
        saver.go(1);
        same("in the next TICK", saver.now(), NONE);
        same("the latest WAKE stays", saver.hand(6), 0);
        saver.ring(0);
        same("till something is", saver.now(), 1);
        saver.go(300);
        same("at the end", saver.now(), NONE);
        same("of a new object", new WakeSaver().now(), NONE);
    }

    // ---- Promise 19: hand

    private void handCalls() {
        WakeSaver saver = Check.told(TEXT);
        int[][] due = {{1, 1}, {1, 1}, {1, 1}, {2, 2}, {3, 3}, {3, 0}};
        for (int tick = 0; tick < due.length; tick++) {
            hands("at " + tick, saver, due[tick]);
            saver.go(1);
        }
        saver.go(300);
        hands("at the end", saver, 4, 0);
    }

    private void handCost() {
        WakeSaver saver = Check.told(TEXT);
        saver.go(4);
        same("no WAKES", saver.hand(2), 0);
        same("no COST", saver.hand(3), 0);
        saver.go(1);
        same("one WAKE", saver.hand(2), 1);
        same("with WAITS of three", saver.hand(3), 10 + 2 * (4 + 1));
        saver.go(10);
        same("others' WAITS don't count", saver.hand(3), 20);
        saver.go(300);
        same("two WAKES", saver.hand(2), 2);
        same("all WAITS", saver.hand(3), 40);
        WakeSaver dear = Check.told("class a slack 9 weight 9;once a 0;price 99;");
        dear.rule(1);
        dear.go(300);
        same("dearest of one", dear.hand(3), 99 + 81);
    }

    private void handWaits() {
        WakeSaver saver = Check.told(TEXT);
        int[] due = {0, 2, 4, 6, 10, 0};
        for (int tick = 0; tick < due.length; tick++) {
            same("at " + tick, saver.hand(4), due[tick]);
            saver.go(1);
        }
        saver.go(300);
        same("at the end", saver.hand(4), 0);
    }

    private void handLatest() {
        WakeSaver saver = Check.told("class a slack 9;class b slack 2;once a 0;once b 3;once a 4;price 99;");
        int[] due = {9, 9, 9, 5, 5, 5, NONE};
        for (int tick = 0; tick < due.length; tick++) {
            same("at " + tick, saver.hand(5), due[tick]);
            saver.go(1);
        }
        same("of a new object", new WakeSaver().hand(5), NONE);
        same("0", Check.told("class a;once a 0;").hand(5), 0);
    }

    private void handWake() {
        WakeSaver saver = Check.told(TEXT);
        same("none yet", saver.hand(6), NONE);
        saver.now();
        same("at 0", saver.hand(6), 0);
        saver.go(300);
        same("the latest", saver.hand(6), 18);
        same("of a new object", new WakeSaver().hand(6), NONE);
    }

    private void handHindsight() {
        WakeSaver saver = Check.told(TEXT);
        int[][] due = {{10, 1}, {10, 1}, {10, 1}, {16, 1}, {20, 1}};
        for (int tick = 0; tick < due.length; tick++) {
            same("COST at " + tick, saver.hand(7), due[tick][0]);
            same("WAKES at " + tick, saver.hand(8), due[tick][1]);
            saver.go(1);
        }
        saver.go(300);
        same("COST at the end", saver.hand(7), 30);
        same("WAKES at the end", saver.hand(8), 2);
        same("COST of a new object", new WakeSaver().hand(7), 0);
        same("WAKES of a new object", new WakeSaver().hand(8), 0);
    }

    private void handOfAnotherWhat() {
        WakeSaver saver = Check.told(TEXT);
        for (int what : new int[] {9, 10, -1, LEAST, MOST}) {
            same("hand(" + what + ")", saver.hand(what), NONE);
        }
    }
}

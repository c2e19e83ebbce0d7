/** Term 2, Term 3 as far as it is live, and Promises 9 to 14: calls, plans, prices, proof, answers. */
final class PlanSentences extends Sentences {
    private static final String TEXT = "class a slack 5 weight 2;class b of a;once a 0;once b 4;every b 10 3;"
            + "length 20;price 10;stay 1;";
    private static final int[] OTHER_PLANS = {-1, 6, 7, LEAST, MOST};

    PlanSentences(Check check) {
        super(check);
    }

    @Override
    void hold() {
        holdPlans();
        holdLive();
        promise(9, "Of THE CALLS the k-th one, what 0: FROM, 1: LATEST, 2: WEIGHT, 3: TIMER.", this::callTells);
        promise(9, "NONE: not so many, another what.", this::noSuchCall);
        promise(10, "How many WAKES are in FEWEST (plan 0), CHEAPEST (1), THRIFTIEST (2), "
                + "LIVE by RULE 0, 1, 2 (3, 4, 5).", this::wakesOfPlans);
        promise(10, "NONE for another plan.", this::wakesOfAnotherPlan);
        promise(11, "The k-th WAKE of a plan.", this::wakeOfAPlan);
        promise(11, "NONE: not so many, another plan.", this::noSuchWake);
        promise(12, "Of a plan, what 0: COST, 1: all WAITS, 2: ENERGY, 3: LIVE ENERGY,", this::pricesOfPlans);
        promise(12, "4: the most CALLS that one WAKE answers,", this::mostAnswered);
        promise(12, "5: the longest that a CALL waits (TICKS).", this::longestWait);
        promise(12, "NONE for others.", this::otherPrices);
        promise(13, "The k-th CALL of the PROOF.", this::proofs);
        promise(13, "NONE: not so many.", this::noSuchProof);
        promise(14, "The WAKE of a plan that answers one of THE CALLS.", this::answers);
        promise(14, "NONE: there are none such.", this::noSuchAnswer);
    }

    private void holdPlans() {
        term(2, "WAKES: a set of TICKS, 0 to LENGTH.", this::wakesFrom0ToLength);
        term(2, "A CALL is ANSWERED by the first WAKE at FROM or behind it;", this::answeredByTheFirst);
        term(2, "it is KEPT, if that is LATEST at most.", this::keptTillLatest);
        term(2, "WAITS of a CALL: WEIGHT times (the WAKE less FROM).", this::waitsOfACall);
        term(2, "Of WAKES by which all are KEPT:", this::allAreKept);
        term(2, "COST: PRICE of each WAKE, and all WAITS.", this::costs);
        term(2, "ENERGY: PRICE of the first WAKE;", this::energyOfTheFirst);
        term(2, "of each other one PRICE, or STAY times how far the one ahead of it is away, whichever is less.",
                this::energyOfOthers);
        term(2, "FEWEST: as few as can be,", this::fewestAsFew);
        term(2, "each as late as can be, the first one first.", this::fewestAsLate);
        term(2, "PROOF: of each of these WAKES the first of THE CALLS that it answers and whose LATEST it is",
                this::proofOfEach);
        term(2, "(no TICK is from FROM to LATEST of two of them).", this::proofsApart);
        term(2, "CHEAPEST: of least COST;", this::cheapest);
        term(2, "THRIFTIEST: of least ENERGY;", this::thriftiest);
        term(2, "of like ones those of the fewest WAKES,", this::likeOnesFewest);
        term(2, "of these those with the least WAKE first (then the next ones so).", this::likeOnesLeastFirst);
        term(2, "(Without CALLS there are no WAKES, all is 0.)", this::withoutCalls);
    }

    private void holdLive() {
        term(3, "LIVE: TICK by TICK CALLS come with FROM; then it WAKES,", this::comeThenWake);
        term(3, "if any CALL is not ANSWERED, by RULE 0: at once;", this::atOnce);
        term(3, "1: if LATEST of any such one is that TICK;", this::atLatest);
        term(3, "2: likewise,", this::atLatestLikewise);
        term(3, "or if all WAITS of such ones would be more than PRICE, were they ANSWERED in the next TICK.",
                this::byWaits);
        term(3, "LIVE ENERGY of WAKES: it stays awake behind each, "
                + "as long as STAY times the TICKS since is PRICE at most:", this::staysAwake);
        term(3, "PRICE for the first;", this::liveEnergyOfTheFirst);
        term(3, "for each other one STAY times how far it is from the one ahead, if it is awake then;",
                this::liveEnergyAwake);
        term(3, "else STAY times as many TICKS as it stayed awake, and PRICE;", this::liveEnergyAsleep);
        term(3, "behind the last one STAY times the TICKS that it stays awake yet, LENGTH at most.",
                this::liveEnergyBehindTheLast);
    }

    // ---- Term 2: wakes, waits, cost and energy

    private void wakesFrom0ToLength() {
        WakeSaver ends = Check.told("class a;once a 300;once a 0;once a 0;length 300;");
        WakeSaver cut = Check.told("class a slack 99;once a 5;length 5;");
        WakeSaver zero = Check.told("class a;once a 0;length 1;");
        for (int plan = 0; plan < 6; plan++) {
            wakes(ends, plan, 0, 300);
            wakes(cut, plan, 5);
            wakes(zero, plan, 0);
        }
        WakeSaver shortest = Check.told("class a slack 99 weight 0;once a 0;once a 1;length 1;");
        int[][] due = {{1}, {1}, {1}, {0, 1}, {1}, {1}};
        for (int plan = 0; plan < 6; plan++) {
            wakes(shortest, plan, due[plan]);
        }
        WakeSaver full = Check.told("class a weight 9;every a 1 1;length 200;price 99;stay 20;");
        for (int plan = 0; plan < 6; plan++) {
            same("a WAKE each, wakes(" + plan + ")", full.wakes(plan), 200);
            same("the last one", full.wake(plan, 199), 200);
        }
    }

    private void answeredByTheFirst() {
        WakeSaver saver = Check.told("class a;class b slack 9;once a 3;once b 3;once b 4;once a 8;");
        wakes(saver, 0, 3, 8);
        int[] due = {3, 3, 8, 8};
        for (int call = 0; call < due.length; call++) {
            same("answer(0, " + call + ")", saver.answer(0, call), due[call]);
        }
        same("all WAITS", saver.price(0, 1), 4);
    }

    private void keptTillLatest() {
        WakeSaver just = Check.told("class a slack 5 weight 0;class b;once a 0;once b 5;price 99;");
        wakes(just, 0, 5);
        wakes(just, 1, 5);
        wakes(just, 2, 5);
        WakeSaver over = Check.told("class a slack 5 weight 0;class b;once a 0;once b 6;price 99;");
        wakes(over, 0, 5, 6);
        wakes(over, 1, 0, 6);
        wakes(over, 2, 5, 6);
    }

    private void waitsOfACall() {
        same("9 times 5", Check.told("class a slack 5 weight 9;once a 0;").price(0, 1), 45);
        same("0 times 5", Check.told("class a slack 5 weight 0;once a 0;").price(0, 1), 0);
        same("9 times 0", Check.told("class a slack 0 weight 9;once a 7;").price(0, 1), 0);
        same("each of two", Check.told("class a slack 5 weight 9;once a 0;once a 4;").price(0, 1), 54);
    }

    private void allAreKept() {
        WakeSaver saver = Check.told("class a slack 5 weight 0;class b slack 12;class c slack 3 weight 9;every a 4 1;"
                + "every b 7 0;every c 11 2;once b 39;length 40;stay 3;");
        for (int plan = 0; plan < 6; plan++) {
            for (int call = 0; call < saver.count(2); call++) {
                int wake = saver.answer(plan, call);
                yes("answer(" + plan + ", " + call + ")", saver.call(call, 0) <= wake && wake <= saver.call(call, 1));
            }
        }
    }

    private void costs() {
        WakeSaver saver = Check.told("class a slack 5 weight 9;once a 0;once a 5;once a 20;price 99;");
        same("two, and WAITS of two", saver.price(0, 0), 2 * 99 + 2 * 45);
        same("three without WAITS", saver.price(3, 0), 3 * 99);
        same("PRICE 1", Check.told("class a slack 5 weight 0;once a 0;price 1;").price(0, 0), 1);
    }

    private void energyOfTheFirst() {
        for (int stay : new int[] {0, 1, 20}) {
            WakeSaver saver = Check.told("class a;once a 7;price 10;stay " + stay + ";");
            for (int plan = 0; plan < 6; plan++) {
                same("STAY " + stay + ", price(" + plan + ", 2)", saver.price(plan, 2), 10);
            }
        }
    }

    private void energyOfOthers() {
        // 4, 5 and 6 TICKS away: 8, just 10, and 12
        WakeSaver saver = Check.told("class a;once a 0;once a 4;once a 9;once a 15;price 10;stay 2;");
        same("less, like, more", saver.price(0, 2), 10 + 8 + 10 + 10);
        same("STAY 0", Check.told("class a;once a 0;once a 60;price 10;stay 0;").price(0, 2), 10);
        same("STAY above PRICE", Check.told("class a;once a 0;once a 1;price 10;stay 11;").price(0, 2), 20);
        same("many", Check.told("class a;every a 1 1;length 200;price 99;stay 20;").price(0, 2), 99 + 20 * 199);
    }

    // ---- Term 2: the plans

    private void fewestAsFew() {
        wakes("class a slack 5;once a 0;once a 5;", 0, 5);
        wakes("class a slack 5;once a 0;once a 6;", 0, 5, 11);
        wakes("class a slack 5;once a 0;once a 5;once a 10;", 0, 5, 15);
        wakes("class a slack 5;class b;once a 0;once b 3;once a 3;", 0, 3);
        wakes("class a slack 99;every a 1 1;length 200;", 0, 100, 200);
    }

    private void fewestAsLate() {
        wakes("class a slack 5;class b slack 9;once a 0;once b 3;once a 10;", 0, 5, 15);
        wakes("class a slack 5;class b slack 9;once a 0;once b 3;once a 10;length 13;", 0, 5, 13);
        // 0-5, 2-4, 2-4, 4-9, 5-10, 9-9, 10-12
        wakes("class a slack 5;class b slack 2;class c;once a 0;once b 2;once b 2;once a 4;once c 9;once a 5;"
                + "once a 10;length 12;", 0, 4, 9, 12);
    }

    private void proofOfEach() {
        // 0-5, 4-12 (ANSWERED by 5), 7-12
        WakeSaver saver = Check.told("class c slack 5;class a slack 8;once c 7;once a 4;once c 0;");
        wakes(saver, 0, 5, 12);
        same("proof(0)", saver.proof(0), 0);
        same("proof(1)", saver.proof(1), 2);
        // 0-5, 5-12 (just ANSWERED by 5), 7-12
        WakeSaver just = Check.told("class c slack 5;class a slack 7;once c 7;once a 5;once c 0;");
        wakes(just, 0, 5, 12);
        same("proof(1), just", just.proof(1), 2);
        // 0-3, 2-3, 2-3, 3-4, 4-7
        WakeSaver shared = Check.told("class a slack 3;class b slack 1;once a 0;once b 2;once b 2;once b 3;once a 4;");
        wakes(shared, 0, 3, 7);
        same("the first of the like LATEST", shared.proof(0), 0);
        same("of the next", shared.proof(1), 4);
        // 0-5, 2-3, 2-3
        WakeSaver later = Check.told("class a slack 5;class b slack 1;once b 2;once a 0;once b 2;");
        same("not the first that it answers", later.proof(0), 1);
        same("a CALL of 0 to 0", Check.told("class a;once a 0;").proof(0), 0);
    }

    private void proofsApart() {
        WakeSaver saver = Check.told("class a slack 5;class b slack 12;class c slack 1;every a 4 1;"
                + "every b 7 0;every c 11 2;length 40;");
        int wakes = saver.wakes(0);
        for (int k = 1; k < wakes; k++) {
            int ahead = saver.proof(k - 1);
            yes("proof(" + k + ") begins behind the one ahead", saver.call(saver.proof(k), 0) > saver.call(ahead, 1));
        }
        same("as many as WAKES", saver.proof(wakes - 1) >= 0 ? 1 : 0, 1);
        same("and no more", saver.proof(wakes), NONE);
    }

    private void cheapest() {
        // apart 2 x PRICE, together PRICE and 6
        wakes("class a slack 20;once a 0;once a 6;price 5;", 1, 0, 6);
        wakes("class a slack 20;once a 0;once a 6;price 7;", 1, 6);
        wakes("class a slack 5;once a 0;once a 6;price 7;", 1, 0, 6);
        // 3 and 4 together wait 2; 0 with them waits 8 more, or 10 with a WAKE of its own
        WakeSaver saver = Check.told("class a slack 20 weight 2;once a 0;once a 3;once a 4;once a 30;price 10;");
        wakes(saver, 1, 4, 30);
        prices(saver, 1, 30, 10, 20, 40, 3, 4);
        wakes("class a slack 20 weight 0;once a 0;once a 3;once a 20;price 1;", 1, 20);
        wakes("class a slack 20 weight 9;once a 0;once a 1;once a 20;price 8;", 1, 0, 1, 20);
    }

    private void thriftiest() {
        // as near to the other as it can be
        WakeSaver near = Check.told("class a slack 5;class b;once a 0;once b 8;price 10;stay 1;");
        wakes(near, 2, 5, 8);
        same("ENERGY", near.price(2, 2), 13);
        // 5 to 15 costs just PRICE: no nearer than at 0
        wakes("class a slack 5;class b;once a 0;once b 15;price 10;stay 1;", 2, 0, 15);
        wakes("class a slack 5;class b;once a 0;once b 14;price 10;stay 1;", 2, 5, 14);
        // the first of all WAKES has nothing ahead of it
        wakes("class a slack 9;once a 8;price 10;stay 1;", 2, 8);
        // 6-11 between 0 and 12: near to one of them, and so far from the other that PRICE is less
        WakeSaver three = Check.told("class a slack 5;class b;once b 0;once a 6;once b 12;price 10;stay 1;");
        wakes(three, 2, 0, 11, 12);
        same("ENERGY of three", three.price(2, 2), 21);
        wakes("class a slack 5;class b;once b 0;once a 6;once b 12;price 5;stay 1;", 2, 0, 11, 12);
        wakes("class a slack 5;class b;once b 0;once a 1;once b 12;price 5;stay 1;", 2, 0, 1, 12);
    }

    private void likeOnesFewest() {
        WakeSaver even = Check.told("class a slack 20;once a 0;once a 6;price 6;");
        wakes(even, 1, 6);
        same("even COST", even.price(1, 0), 12);
        WakeSaver free = Check.told("class a slack 5;class b;once a 0;once b 30;once a 27;price 10;stay 0;");
        wakes(free, 2, 0, 30);
        same("ENERGY of STAY 0", free.price(2, 2), 10);
        // 6 on the way from 0 to 12 costs nothing, but is one more
        wakes("class a slack 6;class b;once b 0;once a 6;once b 12;price 12;stay 1;", 2, 0, 12);
        wakes("class a slack 6;class b;once b 0;once a 6;once b 12;price 10;stay 1;", 2, 0, 12);
    }

    private void likeOnesLeastFirst() {
        wakes("class a slack 9 weight 0;once a 5;price 6;", 1, 5);
        wakes("class a slack 9 weight 0;once a 5;once a 30;price 6;", 1, 5, 30);
        wakes("class a slack 9;once a 5;once a 30;price 10;stay 1;", 2, 5, 30);
        wakes("class a slack 9;once a 5;once a 30;price 10;stay 0;", 2, 5, 30);
        // 0 | 4 8 and 0 4 | 8 are alike
        WakeSaver split = Check.told("class a slack 5;once a 0;once a 4;once a 8;price 9;");
        wakes(split, 1, 0, 8);
        same("COST", split.price(1, 0), 22);
        // the like ones behind a WAKE that all have: 0 | 20 | 24 28 and 0 | 20 24 | 28
        wakes("class a slack 5;once a 0;once a 20;once a 24;once a 28;price 9;", 1, 0, 20, 28);
    }

    private void withoutCalls() {
        for (String text : new String[] {"", "class a;", "class a;once a 61;every a 5 61;"}) {
            WakeSaver saver = Check.told(text);
            for (int plan = 0; plan < 6; plan++) {
                wakes(saver, plan);
                prices(saver, plan, 0, 0, 0, 0, 0, 0);
                same("answer", saver.answer(plan, 0), NONE);
            }
            same("proof", saver.proof(0), NONE);
            same("HINDSIGHT's COST", saver.hand(7), 0);
            same("HINDSIGHT's WAKES", saver.hand(8), 0);
        }
    }

    // ---- Term 3: live

    private void comeThenWake() {
        // 0-5 and 5-9: what comes at 5 is ANSWERED at 5
        wakes("class a slack 5;class b slack 4;once a 0;once b 5;price 99;", 4, 5);
        wakes("class a slack 5;class b slack 4;once a 0;once b 6;price 99;", 4, 5, 10);
        wakes("class a slack 5;class b slack 4;once a 0;once b 5;price 99;", 5, 5);
        wakes("class a;once a 3;once a 3;", 3, 3);
    }

    private void atOnce() {
        wakes("class a slack 9 weight 3;class b slack 2 weight 0;once a 1;once a 4;once b 8;once b 9;once a 20;"
                + "price 14;length 24;", 3, 1, 4, 8, 9, 20);
        wakes("class a slack 99;once a 0;once a 60;price 99;", 3, 0, 60);
        wakes("class a;once a 61;", 3);
    }

    private void atLatest() {
        // 1-10 4-13 8-10 9-11 20-24
        wakes("class a slack 9 weight 3;class b slack 2 weight 0;once a 1;once a 4;once b 8;once b 9;once a 20;"
                + "price 14;length 24;", 4, 10, 24);
        wakes("class a slack 9 weight 9;once a 5;length 7;price 1;", 4, 7);
        wakes("class a slack 9;class b slack 1;once a 0;once b 2;", 4, 3);
        wakes("class a;once a 0;once a 60;", 4, 0, 60);
    }

    private void atLatestLikewise() {
        wakes("class a slack 9 weight 0;class b slack 1 weight 0;once a 0;once b 2;once a 20;", 5, 3, 29);
        wakes("class a slack 9;once a 5;length 7;price 99;", 5, 7);
        wakes("class a;once a 0;once a 60;price 99;", 5, 0, 60);
    }

    private void byWaits() {
        // in the next TICK of 2 it would be 6, no more than PRICE; of 3 it would be 8
        wakes("class a slack 9 weight 2;once a 0;price 6;", 5, 3);
        wakes("class a slack 9 weight 2;once a 0;price 5;", 5, 2);
        // at once, if the next TICK alone is too dear
        wakes("class a slack 9 weight 9;once a 4;price 8;", 5, 4);
        wakes("class a slack 9 weight 9;once a 4;price 9;", 5, 5);
        // at 4: 4 x 3 and 1 x 3 in the next TICK, more than 14; what is ANSWERED counts no more
        wakes("class a slack 9 weight 3;class b slack 2 weight 0;once a 1;once a 4;once b 8;once b 9;once a 20;"
                + "price 14;length 24;", 5, 4, 10, 24);
    }

    private void staysAwake() {
        // 5 TICKS are just PRICE, 6 are more
        same("just awake", Check.told("class a;once a 0;once a 5;length 5;price 10;stay 2;").price(3, 3), 10 + 10);
        same("asleep", Check.told("class a;once a 0;once a 6;length 6;price 10;stay 2;").price(3, 3), 10 + 10 + 10);
        WakeSaver saver = Check.told("class a;once a 0;once a 3;once a 7;once a 12;length 20;price 10;stay 3;");
        same("for 3 TICKS", saver.price(3, 3), 10 + 9 + 19 + 19 + 9);
        same("of any plan", Check.told("class a;once a 0;once a 5;length 5;price 10;stay 2;").price(0, 3), 20);
    }

    private void liveEnergyOfTheFirst() {
        for (int stay : new int[] {0, 1, 20}) {
            WakeSaver saver = Check.told("class a;once a 60;price 10;stay " + stay + ";");
            for (int plan = 0; plan < 6; plan++) {
                same("STAY " + stay + ", price(" + plan + ", 3)", saver.price(plan, 3), 10);
            }
        }
    }

    private void liveEnergyAwake() {
        same("one TICK", Check.told("class a;once a 59;once a 60;price 10;stay 3;").price(3, 3), 10 + 3);
        same("for ever by STAY 0", Check.told("class a;once a 0;once a 300;length 300;stay 0;").price(3, 3), 10);
        same("just PRICE", Check.told("class a;once a 50;once a 60;price 10;stay 1;").price(3, 3), 10 + 10);
        same("PRICE 99 of STAY 1", Check.told("class a;once a 0;once a 99;length 99;price 99;").price(3, 3), 99 + 99);
    }

    private void liveEnergyAsleep() {
        same("stayed for 10", Check.told("class a;once a 49;once a 60;price 10;stay 1;").price(3, 3), 10 + 10 + 10);
        same("stayed for none", Check.told("class a;once a 59;once a 60;price 10;stay 11;").price(3, 3), 10 + 10);
        same("stayed for 1 of 2", Check.told("class a;once a 58;once a 60;price 10;stay 10;").price(3, 3),
                10 + 10 + 10);
        same("stayed for 3 of 10", Check.told("class a;once a 50;once a 60;price 10;stay 3;").price(3, 3), 10 + 9 + 10);
    }

    private void liveEnergyBehindTheLast() {
        int[][] lengths = {{7, 0}, {8, 2}, {11, 8}, {12, 10}, {13, 10}, {300, 10}};
        for (int[] it : lengths) {
            same("LENGTH " + it[0], Check.told("class a;once a 7;price 10;stay 2;length " + it[0] + ";").price(3, 3),
                    10 + it[1]);
        }
        same("STAY 0", Check.told("class a;once a 0;price 10;stay 0;length 300;").price(3, 3), 10);
        same("STAY above PRICE", Check.told("class a;once a 0;price 10;stay 11;length 300;").price(3, 3), 10);
        same("no WAKES", Check.told("price 10;").price(3, 3), 0);
    }

    // ---- Promises 9 to 14

    private void callTells() {
        WakeSaver saver = Check.told(TEXT);
        int[][] due = {{0, 5, 2, 0}, {3, 8, 2, 2}, {4, 9, 2, 1}, {13, 18, 2, 2}};
        for (int k = 0; k < due.length; k++) {
            for (int what = 0; what < 4; what++) {
                same("call(" + k + ", " + what + ")", saver.call(k, what), due[k][what]);
            }
        }
    }

    private void noSuchCall() {
        WakeSaver saver = Check.told(TEXT);
        for (int what = 0; what < 4; what++) {
            for (int k : new int[] {4, 5, -1, LEAST, MOST}) {
                same("call(" + k + ", " + what + ")", saver.call(k, what), NONE);
            }
            same("without CALLS", new WakeSaver().call(0, what), NONE);
        }
        for (int what : new int[] {4, 5, -1, LEAST, MOST}) {
            same("call(0, " + what + ")", saver.call(0, what), NONE);
            same("call(3, " + what + ")", saver.call(3, what), NONE);
        }
    }

    private void wakesOfPlans() {
        WakeSaver saver = Check.told(TEXT);
        int[] due = {2, 2, 2, 4, 2, 2};
        for (int plan = 0; plan < due.length; plan++) {
            same("wakes(" + plan + ")", saver.wakes(plan), due[plan]);
        }
    }

    private void wakesOfAnotherPlan() {
        WakeSaver saver = Check.told(TEXT);
        for (int plan : OTHER_PLANS) {
            same("wakes(" + plan + ")", saver.wakes(plan), NONE);
        }
    }

    private void wakeOfAPlan() {
        WakeSaver saver = Check.told(TEXT);
        int[][] due = {{5, 18}, {4, 13}, {5, 13}, {0, 3, 4, 13}, {5, 18}, {4, 18}};
        for (int plan = 0; plan < due.length; plan++) {
            wakes(saver, plan, due[plan]);
        }
    }

    private void noSuchWake() {
        WakeSaver saver = Check.told(TEXT);
        int[] wakes = {2, 2, 2, 4, 2, 2};
        for (int plan = 0; plan < wakes.length; plan++) {
            for (int k : new int[] {wakes[plan], wakes[plan] + 1, -1, LEAST, MOST}) {
                same("wake(" + plan + ", " + k + ")", saver.wake(plan, k), NONE);
            }
        }
        for (int plan : OTHER_PLANS) {
            same("wake(" + plan + ", 0)", saver.wake(plan, 0), NONE);
        }
    }

    private void pricesOfPlans() {
        WakeSaver saver = Check.told(TEXT);
        prices(saver, 0, 46, 26, 20, 32);
        prices(saver, 1, 30, 10, 19, 26);
        prices(saver, 2, 36, 16, 18, 25);
        prices(saver, 3, 40, 0, 23, 30);
        prices(saver, 4, 46, 26, 20, 32);
        prices(saver, 5, 40, 20, 20, 32);
    }

    private void mostAnswered() {
        WakeSaver saver = Check.told(TEXT);
        int[] due = {3, 3, 3, 1, 3, 3};
        for (int plan = 0; plan < due.length; plan++) {
            same("price(" + plan + ", 4)", saver.price(plan, 4), due[plan]);
        }
        same("by the last WAKE", Check.told("class a;once a 0;once a 60;once a 60;once a 60;").price(3, 4), 3);
        same("by the first one", Check.told("class a;once a 0;once a 0;once a 60;").price(3, 4), 2);
        same("200", Check.told("class a slack 60;" + "every a 7 4;".repeat(22) + "every a 60 0;").price(0, 4), 200);
    }

    private void longestWait() {
        WakeSaver saver = Check.told(TEXT);
        int[] due = {5, 4, 5, 0, 5, 5};
        for (int plan = 0; plan < due.length; plan++) {
            same("price(" + plan + ", 5)", saver.price(plan, 5), due[plan]);
        }
        same("TICKS, whatever WEIGHT", Check.told("class a slack 5 weight 0;once a 0;").price(0, 5), 5);
        same("99 TICKS", Check.told("class a slack 99 weight 9;once a 0;length 300;").price(0, 5), 99);
        same("till LENGTH", Check.told("class a slack 99;once a 50;").price(0, 5), 10);
    }

    private void otherPrices() {
        WakeSaver saver = Check.told(TEXT);
        for (int what = 0; what < 6; what++) {
            for (int plan : OTHER_PLANS) {
                same("price(" + plan + ", " + what + ")", saver.price(plan, what), NONE);
            }
        }
        for (int plan = 0; plan < 6; plan++) {
            for (int what : new int[] {6, 7, -1, LEAST, MOST}) {
                same("price(" + plan + ", " + what + ")", saver.price(plan, what), NONE);
            }
        }
    }

    private void proofs() {
        WakeSaver saver = Check.told(TEXT);
        same("proof(0)", saver.proof(0), 0);
        same("proof(1)", saver.proof(1), 3);
        WakeSaver full = Check.told("class a;every a 1 1;length 200;");
        for (int k = 0; k < 200; k++) {
            same("proof(" + k + ")", full.proof(k), k);
        }
    }

    private void noSuchProof() {
        WakeSaver saver = Check.told(TEXT);
        for (int k : new int[] {2, 3, -1, LEAST, MOST}) {
            same("proof(" + k + ")", saver.proof(k), NONE);
        }
        same("proof(200)", Check.told("class a;every a 1 1;length 200;").proof(200), NONE);
    }

    private void answers() {
        WakeSaver saver = Check.told(TEXT);
        int[][] due = {{5, 5, 5, 18}, {4, 4, 4, 13}, {5, 5, 5, 13}, {0, 3, 4, 13}, {5, 5, 5, 18}, {4, 4, 4, 18}};
        for (int plan = 0; plan < due.length; plan++) {
            for (int call = 0; call < 4; call++) {
                same("answer(" + plan + ", " + call + ")", saver.answer(plan, call), due[plan][call]);
            }
        }
    }

    private void noSuchAnswer() {
        WakeSaver saver = Check.told(TEXT);
        for (int plan = 0; plan < 6; plan++) {
            for (int call : new int[] {4, 5, -1, LEAST, MOST}) {
                same("answer(" + plan + ", " + call + ")", saver.answer(plan, call), NONE);
            }
        }
        for (int plan : OTHER_PLANS) {
            same("answer(" + plan + ", 0)", saver.answer(plan, 0), NONE);
        }
    }
}

/** Promises 9 to 14: THE CALLS, the plans, their prices, the proof and the answers. */
public final class PlansTest {
    private static final Check CHECK = new Check("PlansTest");

    public static void main(String[] args) {
        calls();
        wrongInputs();
        fewestAndProof();
        cheapest();
        cheapestTies();
        thriftiest();
        live();
        liveEnergy();
        prices();
        answers();
        many();
        lastTick();
        CHECK.finish();
    }

    private static void rowOfWakes(String what, WakeSaver saver, int plan, int... due) {
        CHECK.same(what + ", wakes(" + plan + ")", saver.wakes(plan), due.length);
        for (int k = 0; k < due.length; k++) {
            CHECK.same(what + ", wake(" + plan + ", " + k + ")", saver.wake(plan, k), due[k]);
        }
        CHECK.same(what + ", behind the last", saver.wake(plan, due.length), -1);
    }

    private static void rowOfPrices(String what, WakeSaver saver, int plan, int... due) {
        for (int k = 0; k < due.length; k++) {
            CHECK.same(what + ", price(" + plan + ", " + k + ")", saver.price(plan, k), due[k]);
        }
    }

    private static void calls() {
        WakeSaver saver = Check.told("class a slack 4 weight 3;class b;every b 5 2;once a 7;once b 2;"
                + "once a 12;once a 13;length 12;");
        int[][] due = {{2, 2, 1, 0}, {2, 2, 1, 2}, {7, 7, 1, 0}, {7, 11, 3, 1}, {12, 12, 1, 0}, {12, 12, 3, 3}};
        CHECK.same("count(2)", saver.count(2), due.length);
        for (int k = 0; k < due.length; k++) {
            for (int what = 0; what < 4; what++) {
                CHECK.same("call(" + k + ", " + what + ")", saver.call(k, what), due[k][what]);
            }
        }
        for (int what = 0; what < 4; what++) {
            CHECK.same("call(6)", saver.call(6, what), -1);
            CHECK.same("call(-1)", saver.call(-1, what), -1);
        }
        CHECK.same("call what 4", saver.call(0, 4), -1);
        CHECK.same("call what -1", saver.call(0, -1), -1);
    }

    private static void wrongInputs() {
        WakeSaver saver = Check.told("class a;once a 7;");
        for (int plan : new int[] {-1, 6, Integer.MIN_VALUE, Integer.MAX_VALUE}) {
            CHECK.same("wakes", saver.wakes(plan), -1);
            CHECK.same("wake", saver.wake(plan, 0), -1);
            CHECK.same("price", saver.price(plan, 0), -1);
            CHECK.same("answer", saver.answer(plan, 0), -1);
            CHECK.same("wake k", saver.wake(0, plan), -1);
            CHECK.same("price what", saver.price(0, plan), -1);
            CHECK.same("proof", saver.proof(plan), -1);
            CHECK.same("answer call", saver.answer(0, plan), -1);
        }
    }

    private static void fewestAndProof() {
        WakeSaver saver = Check.told("class a slack 5;class b slack 2;class c;once a 0;once b 2;once b 2;"
                + "once a 4;once c 9;once a 5;once a 10;length 12;");
        // 0-5, 2-4, 2-4, 4-9, 5-10, 9-9, 10-12
        rowOfWakes("fewest", saver, 0, 4, 9, 12);
        CHECK.same("proof(0)", saver.proof(0), 1);
        CHECK.same("proof(1)", saver.proof(1), 5);
        CHECK.same("proof(2)", saver.proof(2), 6);
        CHECK.same("proof(3)", saver.proof(3), -1);
        WakeSaver shared = Check.told("class a slack 3;class b slack 1;once a 0;once b 2;once b 3;once a 4;");
        // 0-3, 2-3, 3-4, 4-7: the wake at 4 would be no call's whose LATEST is 3
        rowOfWakes("shared", shared, 0, 3, 7);
        CHECK.same("proof of the first", shared.proof(0), 0);
        CHECK.same("proof of the second", shared.proof(1), 3);
    }

    private static void cheapest() {
        WakeSaver saver = Check.told("class a slack 20 weight 2;once a 0;once a 3;once a 4;once a 30;price 10;");
        // 3 and 4 together wait 2; 0 with them waits 8 more, or 10 with a wake of its own
        rowOfWakes("cheapest", saver, 1, 4, 30);
        rowOfPrices("cheapest", saver, 1, 30, 10, 20, 40, 3, 4);
        WakeSaver free = Check.told("class a slack 20 weight 0;once a 0;once a 3;once a 20;price 1;");
        rowOfWakes("free waits", free, 1, 20);
        rowOfPrices("free waits", free, 1, 1, 0, 1, 2, 3, 20);
        WakeSaver heavy = Check.told("class a slack 20 weight 9;once a 0;once a 1;once a 20;price 8;");
        rowOfWakes("heavy waits", heavy, 1, 0, 1, 20);
    }

    private static void cheapestTies() {
        // apart 2 x 6, together 6 and 1 x 6: the fewer wakes strike
        WakeSaver even = Check.told("class a slack 20 weight 1;once a 0;once a 6;price 6;");
        rowOfWakes("even", even, 1, 6);
        CHECK.same("even COST", even.price(1, 0), 12);
        WakeSaver early = Check.told("class a slack 9 weight 0;once a 5;price 6;");
        rowOfWakes("the least wake", early, 1, 5);
        // 0 | 4 8 and 0 4 | 8 are alike: the least first wake strikes
        WakeSaver split = Check.told("class a slack 5 weight 1;once a 0;once a 4;once a 8;price 9;");
        rowOfWakes("split", split, 1, 0, 8);
        CHECK.same("split COST", split.price(1, 0), 22);
    }

    private static void thriftiest() {
        WakeSaver saver = Check.told("class a slack 5;class b;once a 0;once b 8;price 10;stay 1;");
        // as near to the other as it can be: 5 and 8
        rowOfWakes("near", saver, 2, 5, 8);
        CHECK.same("near ENERGY", saver.price(2, 2), 13);
        WakeSaver far = Check.told("class a slack 5;class b;once a 0;once b 30;price 10;stay 1;");
        // too far anyway: the least one strikes
        rowOfWakes("far", far, 2, 0, 30);
        CHECK.same("far ENERGY", far.price(2, 2), 20);
        WakeSaver free = Check.told("class a slack 5;class b;once a 0;once b 30;once a 27;price 10;stay 0;");
        rowOfWakes("staying is free", free, 2, 0, 30);
        CHECK.same("free ENERGY", free.price(2, 2), 10);
        // 12 ticks are no more than a wake's 10: no hop at 6 helps
        WakeSaver hops = Check.told("class a slack 6;class b;once b 0;once a 6;once b 12;price 10;stay 1;");
        rowOfWakes("hops", hops, 2, 0, 12);
        CHECK.same("hops ENERGY", hops.price(2, 2), 20);
    }

    private static void live() {
        WakeSaver saver = Check.told("class a slack 9 weight 3;class b slack 2 weight 0;once a 1;once a 4;"
                + "once b 8;once b 9;once a 20;price 14;length 24;");
        rowOfWakes("at once", saver, 3, 1, 4, 8, 9, 20);
        // 1-10 4-13 8-10 9-11 20-24
        rowOfWakes("at the LATEST", saver, 4, 10, 24);
        // at 4: 4 x 3 and 1 x 3 are 15 in the next tick, more than 14; at 20 to 24: 4 x 3 at 23 are 12
        rowOfWakes("by waits", saver, 5, 4, 10, 24);
        WakeSaver just = Check.told("class a slack 9 weight 2;once a 0;price 6;");
        // in the next tick of 2 it would be 6, no more than 6; of 3 it would be 8
        rowOfWakes("not more than PRICE", just, 5, 3);
        WakeSaver cut = Check.told("class a slack 9;once a 5;length 7;price 99;");
        rowOfWakes("LENGTH cuts", cut, 4, 7);
        rowOfWakes("LENGTH cuts waits", cut, 5, 7);
    }

    private static void liveEnergy() {
        WakeSaver saver = Check.told("class a;once a 0;once a 3;once a 7;once a 12;length 20;price 10;stay 3;");
        // awake for 3 ticks: 10, 3 x 3, 9 and 10, 9 and 10, 9 behind the last
        CHECK.same("LIVE ENERGY", saver.price(3, 3), 10 + 9 + 19 + 19 + 9);
        CHECK.same("ENERGY", saver.price(3, 2), 10 + 9 + 10 + 10);
        WakeSaver free = Check.told("class a;once a 0;once a 50;length 60;price 10;stay 0;");
        CHECK.same("free LIVE ENERGY", free.price(3, 3), 10);
        WakeSaver dear = Check.told("class a;once a 0;once a 1;length 60;price 10;stay 11;");
        CHECK.same("dear LIVE ENERGY", dear.price(3, 3), 20);
        WakeSaver even = Check.told("class a;once a 0;once a 5;length 6;price 10;stay 2;");
        CHECK.same("just awake", even.price(3, 3), 10 + 10 + 2);
        WakeSaver last = Check.told("class a;once a 60;price 10;");
        CHECK.same("none behind LENGTH", last.price(3, 3), 10);
    }

    private static void prices() {
        WakeSaver saver = Check.told("class a slack 5 weight 2;class b of a;once a 0;once b 4;every b 10 3;"
                + "length 20;price 10;stay 1;");
        rowOfPrices("FEWEST", saver, 0, 46, 26, 20, 32, 3, 5, -1);
        rowOfPrices("CHEAPEST", saver, 1, 30, 10, 19, 26, 3, 4, -1);
        rowOfPrices("THRIFTIEST", saver, 2, 36, 16, 18, 25, 3, 5, -1);
        rowOfPrices("RULE 0", saver, 3, 40, 0, 23, 30, 1, 0, -1);
        rowOfPrices("RULE 1", saver, 4, 46, 26, 20, 32, 3, 5, -1);
        rowOfPrices("RULE 2", saver, 5, 40, 20, 20, 32, 3, 5, -1);
        CHECK.same("price what -1", saver.price(0, -1), -1);
        WakeSaver light = Check.told("class a slack 5 weight 0;once a 0;once a 1;once a 1;");
        CHECK.same("weightless ticks count", light.price(0, 5), 5);
        CHECK.same("weightless waits don't", light.price(0, 1), 0);
        CHECK.same("all by one", light.price(0, 4), 3);
        CHECK.same("two of one tick", light.price(3, 4), 2);
    }

    private static void answers() {
        WakeSaver saver = Check.told("class a slack 5 weight 2;class b of a;once a 0;once b 4;every b 10 3;"
                + "length 20;price 10;stay 1;");
        int[][] due = {{5, 5, 5, 18}, {4, 4, 4, 13}, {5, 5, 5, 13}, {0, 3, 4, 13}, {5, 5, 5, 18}, {4, 4, 4, 18}};
        for (int plan = 0; plan < due.length; plan++) {
            for (int call = 0; call < 4; call++) {
                CHECK.same("answer(" + plan + ", " + call + ")", saver.answer(plan, call), due[plan][call]);
            }
            CHECK.same("answer to none", saver.answer(plan, 4), -1);
        }
    }

    private static void lastTick() {
        WakeSaver saver = Check.told("class a;once a 300;once a 0;length 300;");
        for (int plan = 0; plan < 6; plan++) {
            rowOfWakes("at both ends", saver, plan, 0, 300);
        }
    }

    private static void many() {
        WakeSaver saver = Check.told("class a weight 9;every a 1 1;length 200;price 99;stay 20;");
        CHECK.same("200 CALLS", saver.count(2), 200);
        for (int plan = 0; plan < 6; plan++) {
            CHECK.same("a wake each", saver.wakes(plan), 200);
            CHECK.same("the last wake", saver.wake(plan, 199), 200);
            CHECK.same("COST", saver.price(plan, 0), 99 * 200);
            CHECK.same("ENERGY", saver.price(plan, 2), 99 + 20 * 199);
        }
        CHECK.same("the last proof", saver.proof(199), 199);
        saver.slacken(0, 99);
        CHECK.same("FEWEST by 99", saver.wakes(0), 2);
    }
}

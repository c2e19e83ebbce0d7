/** Promises 15 to 19: rules, ticks, rung calls, wakes by hand, and hindsight. */
public final class HandTest {
    private static final Check CHECK = new Check("HandTest");
    private static final String TEXT = "class a slack 5 weight 2;class b of a;once a 0;once b 4;every b 10 3;"
            + "length 20;price 10;stay 1;";

    public static void main(String[] args) {
        rules();
        ticks();
        likeLive();
        rung();
        rungLimits();
        wakesNow();
        laidWhenTheyCome();
        hindsight();
        CHECK.finish();
    }

    private static void row(String what, WakeSaver saver, int... due) {
        for (int k = 0; k < due.length; k++) {
            CHECK.same(what + ", hand(" + k + ")", saver.hand(k), due[k]);
        }
    }

    private static void rules() {
        WakeSaver saver = Check.told(TEXT);
        CHECK.no("2 already", saver.rule(2));
        CHECK.no("3", saver.rule(3));
        CHECK.no("-1", saver.rule(-1));
        CHECK.yes("1", saver.rule(1));
        CHECK.no("1 already", saver.rule(1));
        CHECK.same("count(7)", saver.count(7), 1);
        CHECK.same("by rule 1", saver.go(5), 0);
        CHECK.same("by rule 1", saver.go(1), 1);
        CHECK.yes("0", saver.rule(0));
        CHECK.same("by rule 0", saver.go(8), 1);
        CHECK.same("its wake", saver.hand(6), 13);
        CHECK.same("NOW", saver.count(6), 14);
        CHECK.yes("2 again", saver.rule(2));
        CHECK.same("count(7) again", saver.count(7), 2);
    }

    private static void ticks() {
        WakeSaver saver = Check.told(TEXT);
        for (int n : new int[] {0, -1, 301, Integer.MIN_VALUE, Integer.MAX_VALUE}) {
            CHECK.same("go(" + n + ")", saver.go(n), -1);
        }
        CHECK.same("NOW stays", saver.count(6), 0);
        row("at first", saver, 1, 1, 0, 0, 0, 5, -1, 10, 1, -1);
        CHECK.same("hand(-1)", saver.hand(-1), -1);
        CHECK.same("go(3)", saver.go(3), 0);
        row("at 3", saver, 2, 2, 0, 0, 6, 5, -1, 16, 1);
        CHECK.same("go(2)", saver.go(2), 1);
        row("at 5", saver, 3, 0, 1, 20, 0, -1, 4, 20, 1);
        CHECK.same("go(300)", saver.go(300), 1);
        CHECK.same("the end", saver.count(6), 21);
        row("at the end", saver, 4, 0, 2, 40, 0, -1, 18, 30, 2);
        CHECK.same("go at the end", saver.go(1), -1);
        CHECK.same("NOW at the end", saver.now(), -1);
        CHECK.same("ring at the end", saver.ring(0), -1);
        CHECK.yes("rule at the end", saver.rule(0));
        WakeSaver longest = Check.told("length 300;");
        CHECK.same("300 ticks", longest.go(300), 0);
        CHECK.same("NOW 300", longest.count(6), 300);
        CHECK.same("the last tick", longest.go(300), 0);
        CHECK.same("NOW 301", longest.count(6), 301);
        CHECK.same("none more", longest.go(300), -1);
    }

    private static void likeLive() {
        for (int rule = 0; rule < 3; rule++) {
            WakeSaver saver = Check.told(TEXT);
            saver.rule(rule);
            CHECK.same("wakes of rule " + rule, saver.go(21), saver.wakes(3 + rule));
            CHECK.same("COST of rule " + rule, saver.hand(3), saver.price(3 + rule, 0));
        }
    }

    private static void rung() {
        WakeSaver saver = Check.told(TEXT);
        saver.go(16);
        row("at 16", saver, 4, 1, 1, 20, 6, 18, 4, 30, 2);
        CHECK.same("ring", saver.ring(1), 20);
        row("rung", saver, 5, 2, 1, 20, 6, 18, 4, 36, 2);
        CHECK.same("ring(2)", saver.ring(2), -1);
        CHECK.same("ring(-1)", saver.ring(-1), -1);
        CHECK.same("THE CALLS stay", saver.count(2), 4);
        // 16: 4 x 2 and 1 x 2 are just 10; 17: more
        CHECK.same("go(1)", saver.go(1), 0);
        CHECK.same("go(1) again", saver.go(1), 1);
        row("at 18", saver, 5, 0, 2, 40, 0, -1, 17, 36, 2);
    }

    private static void rungLimits() {
        WakeSaver saver = Check.told("class a slack 99;every a 1 0;length 199;price 99;");
        for (int k = 0; k < 100; k++) {
            CHECK.same("ring " + k, saver.ring(0), 99);
        }
        CHECK.same("the 101st", saver.ring(0), -1);
        CHECK.same("CALLS", saver.hand(0), 101);
        saver.go(300);
        CHECK.same("CALLS at the end", saver.hand(0), 300);
        CHECK.same("none open", saver.hand(1), 0);
        saver.slacken(0, 0);
        // laid with 99: 0 to 99 and 100 to 199 by two wakes or more, whatever the class tells now
        CHECK.yes("HINDSIGHT of 300", saver.hand(8) >= 2 && saver.hand(8) < 200);
        CHECK.yes("no dearer than what was done", saver.hand(7) <= saver.hand(3));
        Check.tell(saver, "class a;");
        CHECK.same("anew", saver.ring(0), 0);
    }

    private static void wakesNow() {
        WakeSaver saver = Check.told(TEXT);
        CHECK.same("now", saver.now(), 1);
        row("woken", saver, 1, 0, 1, 10, 0, -1, 0, 10, 1);
        CHECK.same("now again", saver.now(), -1);
        CHECK.same("ring in a wake", saver.ring(0), 5);
        row("answered at once", saver, 2, 0, 1, 10, 0, -1, 0, 10, 1);
        CHECK.same("go counts its own", saver.go(1), 0);
        CHECK.same("ring behind it", saver.ring(0), 6);
        CHECK.same("is open", saver.hand(1), 1);
        saver.go(2);
        CHECK.same("CALLS of 3", saver.hand(1), 2);
        CHECK.same("now answers both", saver.now(), 2);
        row("both", saver, 4, 0, 2, 24, 0, -1, 3, 24, 2);
    }

    private static void laidWhenTheyCome() {
        WakeSaver saver = Check.told("class a slack 5;once a 0;once a 1;once a 2;price 99;");
        saver.slacken(0, 30);
        CHECK.same("laid at first", saver.hand(5), 5);
        saver.go(1);
        saver.slacken(0, 1);
        CHECK.same("LATEST stays", saver.hand(5), 5);
        saver.go(1);
        CHECK.same("laid by the class then", saver.hand(5), 3);
        CHECK.same("THE CALLS are by the class now", saver.call(0, 1), 1);
        CHECK.same("woken for the last", saver.go(300), 1);
        CHECK.same("at its LATEST", saver.hand(6), 3);
        CHECK.same("HINDSIGHT as laid", saver.hand(8), 1);
        CHECK.same("CHEAPEST as they are", saver.wakes(1), 2);
    }

    private static void hindsight() {
        WakeSaver saver = Check.told("class a slack 9 weight 1;once a 1;price 4;");
        row("nothing came", saver, 0, 0, 0, 0, 0, -1, -1, 0, 0);
        saver.rule(0);
        saver.go(3);
        row("one came", saver, 1, 0, 1, 4, 0, -1, 1, 4, 1);
        saver.ring(0);
        row("a rung one, too", saver, 2, 1, 1, 4, 0, 12, 1, 6, 1);
        saver.go(3);
        saver.ring(0);
        row("another one", saver, 3, 1, 2, 8, 0, 15, 3, 10, 2);
    }
}

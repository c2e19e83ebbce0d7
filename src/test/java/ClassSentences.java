/** Term 1 and Promises 7, 8, 22 and 23: classes, timers, calls, and what another slack would do. */
final class ClassSentences extends Sentences {
    private static final String FAMILY = "class a slack 5 weight 2;class b of a;class c of b slack 0;"
            + "class d of c weight 0;class e;class f of e weight 9;class g of b weight 3;"
            + "once a 1;once b 2;every b 10 3;once d 20;";

    ClassSentences(Check check) {
        super(check);
    }

    @Override
    void hold() {
        holdTerms();
        promise(7, "Of a CLASS, what 0: PARENT (NONE),", this::parentOfAClass);
        promise(7, "1: SLACK, 2: WEIGHT,", this::slackAndWeightOfAClass);
        promise(7, "3: its own SLACK (NONE), 4: its own WEIGHT (NONE),", this::ownOnesOfAClass);
        promise(7, "5: TIMERS of it,", this::timersOfAClass);
        promise(7, "6: CLASSES whose SLACK is its own SLACK by inheriting, itself, too, as bits", this::heirs);
        promise(7, "(0: it has none of its own).", this::heirsOfNoneOfItsOwn);
        promise(7, "NONE: there is none such, another what.", this::noSuchClass);
        promise(8, "A CLASS has another SLACK of its own", this::slackens);
        promise(8, "(NONE: none any more): true.", this::slackNoneAnyMore);
        promise(8, "false: it is so,", this::slackIsSo);
        promise(8, "it can't be,", this::slackCantBe);
        promise(8, "there is none such.", this::noSuchClassToSlacken);
        promise(22, "Were the SLACK of a CLASS its own and that number,", this::wouldSupposes);
        promise(22, "what 0: WAKES of FEWEST,", this::wouldTellFewest);
        promise(22, "1: COST of CHEAPEST,", this::wouldTellCheapest);
        promise(22, "2: ENERGY of THRIFTIEST,", this::wouldTellThriftiest);
        promise(22, "3: WAKES of the ROUND.", this::wouldTellTheRound);
        promise(22, "NONE: others,", this::wouldOfOthers);
        promise(22, "there is none.", this::wouldOfNoRound);
        promise(23, "The least SLACK of its own of a CLASS by which FEWEST has n WAKES at most.",
                this::leastSlackEnough);
        promise(23, "NONE: none such,", this::enoughOfNoClass);
        promise(23, "by none from 0 to 99.", this::noSlackEnough);
    }

    private void holdTerms() {
        term(1, "CLASSES, at most 8, numbered from 0 on:", this::eightClasses);
        term(1, "a NAME (1 to 6 letters a to z),", this::namesOf1To6);
        term(1, "an elder CLASS as its PARENT or none,", this::elderParents);
        term(1, "a SLACK of its own (0 to 99) or none,", this::ownSlacks);
        term(1, "a WEIGHT of its own (0 to 9) or none.", this::ownWeights);
        term(1, "Its SLACK is its own one, else its PARENT's SLACK, else 0;", this::inheritedSlack);
        term(1, "WEIGHT likewise, else 1.", this::inheritedWeight);
        term(1, "TIMERS, at most 24, numbered from 0 on:", this::twentyFourTimers);
        term(1, "of a CLASS; ONCE at a TICK (0 to 300),", this::onceTimers);
        term(1, "or EVERY so many TICKS (PERIOD 1 to 60)", this::periods);
        term(1, "from a TICK on (0 to 300).", this::everyTicks);
        term(1, "LENGTH, 1 to 300 (60 at first);", this::lengths);
        term(1, "PRICE of a WAKE, 1 to 99 (10);", this::pricesOfAWake);
        term(1, "STAY, 0 to 20 (1).", this::stays);
        term(1, "CALLS of a TIMER: at its TICK, and by PERIOD on and on, as far as LENGTH.", this::callsOfATimer);
        term(1, "A CALL: FROM (its TICK), LATEST (FROM and SLACK, LENGTH at most), WEIGHT.", this::latests);
        term(1, "There are 200 at most.", this::twoHundredCalls);
        term(1, "THE CALLS: of all TIMERS, by FROM, of like ones by TIMERS, numbered from 0 on,", this::callsInOrder);
        term(1, "by CLASSES as they are.", this::callsByClassesAsTheyAre);
    }

    // ---- Term 1: classes

    private void eightClasses() {
        StringBuilder text = new StringBuilder();
        for (int kind = 0; kind < 8; kind++) {
            text.append("class ").append((char) ('h' - kind)).append(" slack ").append(10 + kind).append(";");
        }
        WakeSaver saver = good(text.toString(), 0);
        same("count(0)", saver.count(0), 8);
        for (int kind = 0; kind < 8; kind++) {
            same("kind(" + kind + ", 3)", saver.kind(kind, 3), 10 + kind);
        }
        same("kind(8, 3)", saver.kind(8, 3), NONE);
        same("the last one's bit", saver.kind(7, 6), 128);
        bad(text + "class i;", 4, text.length());
    }

    private void namesOf1To6() {
        WakeSaver saver = good("class a;class z;class abcdef;class abcdeg;class bbcdef;class zzzzzz;"
                + "once abcdeg 1;once zzzzzz 1;once z 1;once zzzzzz 2;", 4);
        eachKind(saver, 5, 0, 1, 0, 1, 0, 2);
        bad("class ;", 1, 6);
        bad("class abcdefg;", 1, 6);
        bad("class zzzzzzz;", 1, 6);
    }

    private void elderParents() {
        WakeSaver saver = good("class a;class b of a;class c of b;class d of c;class e of d;class f of e;class g of f;"
                + "class h of g;", 0);
        eachKind(saver, 0, NONE, 0, 1, 2, 3, 4, 5, 6);
        bad("class a of a;", 2, 11);
        bad("class a of b;class b;", 2, 11);
    }

    private void ownSlacks() {
        eachKind(good("class a slack 0;class b slack 99;class c;", 0), 3, 0, 99, NONE);
        bad("class a slack 100;", 3, 14);
    }

    private void ownWeights() {
        eachKind(good("class a weight 0;class b weight 9;class c;", 0), 4, 0, 9, NONE);
        bad("class a weight 10;", 3, 15);
    }

    private void inheritedSlack() {
        inherits("slack", 1, 0);
    }

    private void inheritedWeight() {
        inherits("weight", 2, 1);
    }

    private void inherits(String word, int what, int ofNone) {
        String heirs = "class b of a;class c of b;class d of c;class e of d;class f of e;class g of f;class h of g;";
        eachKind(good("class a " + word + " 7;" + heirs, 0), what, 7, 7, 7, 7, 7, 7, 7, 7);
        eachKind(good("class a;" + heirs, 0), what, ofNone, ofNone, ofNone, ofNone, ofNone, ofNone, ofNone, ofNone);
        String text = "class a OWN 7;class b of a OWN 0;class c of b;class d of a OWN 9;class e of a;class f;";
        eachKind(good(text.replace("OWN", word), 0), what, 7, 0, 0, 9, 7, ofNone);
    }

    /** What kind() tells of each CLASS from 0 on. */
    private void eachKind(WakeSaver saver, int what, int... due) {
        for (int kind = 0; kind < due.length; kind++) {
            same("kind(" + kind + ", " + what + ")", saver.kind(kind, what), due[kind]);
        }
    }

    // ---- Term 1: timers

    private void twentyFourTimers() {
        StringBuilder text = new StringBuilder("class a;");
        for (int timer = 0; timer < 24; timer++) {
            text.append("once a ").append(59 - timer).append(";");
        }
        WakeSaver saver = good(text.toString(), 24);
        same("count(1)", saver.count(1), 24);
        for (int k = 0; k < 24; k++) {
            same("TIMER of call " + k, saver.call(k, 3), 23 - k);
        }
        bad(text + "once a 1;", 4, text.length());
        bad(text + "every a 1 1;", 4, text.length());
    }

    private void onceTimers() {
        WakeSaver saver = good("class a;class b weight 5;once b 0;once a 300;length 300;", 2);
        same("at 0", saver.call(0, 0), 0);
        same("of its CLASS", saver.call(0, 2), 5);
        same("at 300", saver.call(1, 0), 300);
        same("once alone", saver.count(2), 2);
        bad("class a;once a 301;", 3, 15);
    }

    private void periods() {
        calls("class a;every a 1 0;length 2;", 0, 0, 1, 1, 2, 2);
        calls("class a;every a 60 0;", 0, 0, 60, 60);
        bad("class a;every a 0 0;", 3, 16);
        bad("class a;every a 61 0;", 3, 16);
    }

    private void everyTicks() {
        calls("class a;every a 2 0;length 4;", 0, 0, 2, 2, 4, 4);
        calls("class a;every a 60 300;length 300;", 300, 300);
        bad("class a;every a 60 301;", 3, 19);
    }

    private void lengths() {
        same("at first", good("", 0).count(3), 60);
        same("1", good("length 1;", 0).count(3), 1);
        same("300", good("length 300;", 0).count(3), 300);
        bad("length 0;", 3, 7);
        bad("length 301;", 3, 7);
        calls("class a slack 99;every a 1 0;length 1;", 0, 1, 1, 1);
        calls("class a slack 99;once a 299;once a 300;length 300;", 299, 300, 300, 300);
    }

    private void pricesOfAWake() {
        same("at first", good("", 0).count(4), 10);
        same("1", good("class a;once a 0;price 1;", 1).price(0, 0), 1);
        same("99", good("class a;once a 0;price 99;", 1).price(0, 0), 99);
        bad("price 0;", 3, 6);
        bad("price 100;", 3, 6);
    }

    private void stays() {
        same("at first", good("", 0).count(5), 1);
        same("0", good("class a;once a 0;once a 1;stay 0;price 99;", 2).price(0, 2), 99);
        same("20", good("class a;once a 0;once a 1;stay 20;price 99;", 2).price(0, 2), 119);
        bad("stay 21;", 3, 5);
    }

    // ---- Term 1: calls

    private void callsOfATimer() {
        calls("class a;every a 5 2;length 12;", 2, 2, 7, 7, 12, 12);
        calls("class a;every a 5 2;length 11;", 2, 2, 7, 7);
        calls("class a;once a 11;length 11;", 11, 11);
        calls("class a;once a 12;length 11;");
        calls("class a;every a 1 11;length 11;", 11, 11);
        calls("class a;every a 1 12;length 11;");
        calls("class a;every a 10 2;length 11;", 2, 2);
        calls("class a;every a 9 2;length 11;", 2, 2, 11, 11);
    }

    private void latests() {
        calls("class a slack 4;once a 8;length 13;", 8, 12);
        calls("class a slack 4;once a 8;length 12;", 8, 12);
        calls("class a slack 4;once a 8;length 11;", 8, 11);
        calls("class a slack 4;once a 8;length 8;", 8, 8);
        calls("class a slack 0;once a 8;", 8, 8);
        calls("class a slack 99;once a 0;length 300;", 0, 99);
        WakeSaver saver = good("class a weight 0;class b;class c weight 9;once a 8;once b 8;once c 8;", 3);
        same("WEIGHT 0", saver.call(0, 2), 0);
        same("WEIGHT 1", saver.call(1, 2), 1);
        same("WEIGHT 9", saver.call(2, 2), 9);
    }

    private void twoHundredCalls() {
        WakeSaver saver = good("class a slack 99 weight 9;every a 1 0;length 199;price 99;", 1);
        same("count(2)", saver.count(2), 200);
        same("the last", saver.call(199, 0), 199);
        same("behind the last", saver.call(200, 0), NONE);
        wakes(saver, 0, 99, 199);
        same("all WAITS", saver.price(0, 1), 9 * 99 * 100);
        same("all by two", saver.price(0, 4), 100);
        WakeSaver one = good("class a slack 60;" + "every a 7 4;".repeat(22) + "every a 60 0;", 23);
        same("200 of 23", one.count(2), 200);
        wakes(one, 0, 60);
        same("all by one", one.price(0, 4), 200);
        bad("class a;every a 1 0;length 200;", 5, 31);
    }

    private void callsInOrder() {
        WakeSaver saver = Check.told("class a slack 4 weight 3;class b;every b 5 2;once a 7;once b 2;"
                + "once a 12;once a 13;every a 5 2;length 12;");
        int[][] due = {{2, 2, 1, 0}, {2, 2, 1, 2}, {2, 6, 3, 5}, {7, 7, 1, 0}, {7, 11, 3, 1}, {7, 11, 3, 5},
            {12, 12, 1, 0}, {12, 12, 3, 3}, {12, 12, 3, 5}};
        same("count(2)", saver.count(2), due.length);
        for (int k = 0; k < due.length; k++) {
            for (int what = 0; what < 4; what++) {
                same("call(" + k + ", " + what + ")", saver.call(k, what), due[k][what]);
            }
        }
    }

    private void callsByClassesAsTheyAre() {
        WakeSaver saver = Check.told("class a slack 5;class b of a;every b 10 0;length 22;");
        same("LATEST", saver.call(0, 1), 5);
        same("ahead", saver.wakes(0), 3);
        same("ROUND ahead", saver.round(3), 0);
        saver.slacken(0, 30);
        same("LATEST then", saver.call(0, 1), 22);
        wakes(saver, 0, 22);
        saver.slacken(1, 0);
        same("LATEST by its own", saver.call(0, 1), 0);
        wakes(saver, 0, 0, 10, 20);
        wakes(saver, 1, 0, 10, 20);
        saver.slacken(1, -1);
        same("LATEST as it was", saver.call(0, 1), 22);
        saver.go(10);
        same("though they came", saver.call(0, 1), 22);
    }

    // ---- Promise 7: kind

    private void parentOfAClass() {
        eachKind(Check.told(FAMILY), 0, NONE, 0, 1, 2, NONE, 4, 1);
    }

    private void slackAndWeightOfAClass() {
        WakeSaver saver = Check.told(FAMILY);
        eachKind(saver, 1, 5, 5, 0, 0, 0, 0, 5);
        eachKind(saver, 2, 2, 2, 2, 0, 1, 9, 3);
    }

    private void ownOnesOfAClass() {
        WakeSaver saver = Check.told(FAMILY);
        eachKind(saver, 3, 5, NONE, 0, NONE, NONE, NONE, NONE);
        eachKind(saver, 4, 2, NONE, NONE, 0, NONE, 9, 3);
    }

    private void timersOfAClass() {
        eachKind(Check.told(FAMILY), 5, 1, 2, 0, 1, 0, 0, 0);
        eachKind(Check.told("class a;" + "once a 70;".repeat(24)), 5, 24);
    }

    private void heirs() {
        WakeSaver saver = Check.told(FAMILY);
        same("heirs of a", saver.kind(0, 6), 0b1000011);
        same("heirs of c", saver.kind(2, 6), 0b1100);
        WakeSaver eight = Check.told("class a slack 0;class b of a;class c of b;class d of c;class e of d;class f of e;"
                + "class g of f;class h of g;");
        same("all eight, though it is 0", eight.kind(0, 6), 255);
        WakeSaver alike = Check.told("class a slack 5;class b of a slack 5;class c of b;class d slack 5;");
        same("none by a like SLACK of its own", alike.kind(0, 6), 1);
        same("by inheriting", alike.kind(1, 6), 0b110);
        same("itself alone", alike.kind(3, 6), 0b1000);
    }

    private void heirsOfNoneOfItsOwn() {
        WakeSaver saver = Check.told(FAMILY);
        for (int kind : new int[] {1, 3, 4, 5, 6}) {
            same("kind(" + kind + ", 6)", saver.kind(kind, 6), 0);
        }
        saver.slacken(0, -1);
        same("none any more", saver.kind(0, 6), 0);
        same("nor by those of it", saver.kind(1, 6), 0);
    }

    private void noSuchClass() {
        WakeSaver saver = Check.told(FAMILY);
        for (int kind : new int[] {7, 8, -1, LEAST, MOST}) {
            kinds(saver, kind, NONE, NONE, NONE, NONE, NONE, NONE, NONE);
        }
        for (int what : new int[] {7, -1, LEAST, MOST}) {
            same("kind(0, " + what + ")", saver.kind(0, what), NONE);
            same("kind(6, " + what + ")", saver.kind(6, what), NONE);
        }
    }

    // ---- Promise 8: slacken

    private void slackens() {
        WakeSaver saver = Check.told(FAMILY);
        yes("own like the parent's", saver.slacken(1, 5));
        kinds(saver, 0, NONE, 5, 2, 5, 2, 1, 0b1);
        kinds(saver, 1, 0, 5, 2, 5, NONE, 2, 0b1000010);
        yes("99", saver.slacken(4, 99));
        kinds(saver, 5, 4, 99, 9, NONE);
        yes("0", saver.slacken(5, 0));
        kinds(saver, 5, 4, 0, 9, 0);
        yes("another one", saver.slacken(5, 1));
        kinds(saver, 5, 4, 1, 9, 1);
        saver.go(300);
        yes("at the end, too", saver.slacken(5, 2));
    }

    private void slackNoneAnyMore() {
        WakeSaver saver = Check.told(FAMILY);
        yes("of c", saver.slacken(2, -1));
        kinds(saver, 2, 1, 5, 2, NONE);
        kinds(saver, 3, 2, 5, 0, NONE, 0, 1, 0);
        yes("of the eldest", saver.slacken(0, -1));
        kinds(saver, 0, NONE, 0, 2, NONE, 2, 1, 0);
        kinds(saver, 3, 2, 0, 0, NONE, 0, 1, 0);
    }

    private void slackIsSo() {
        WakeSaver saver = Check.told(FAMILY);
        no("5 already", saver.slacken(0, 5));
        no("none already", saver.slacken(1, -1));
        no("0 already", saver.slacken(2, 0));
        yes("but 0 is not none", saver.slacken(4, 0));
        no("0 then", saver.slacken(4, 0));
    }

    private void slackCantBe() {
        WakeSaver saver = Check.told(FAMILY);
        for (int slack : new int[] {-2, 100, LEAST, MOST}) {
            no("slacken(0, " + slack + ")", saver.slacken(0, slack));
            no("slacken(1, " + slack + ")", saver.slacken(1, slack));
        }
        stays(saver, () -> saver.slacken(0, 100));
        kinds(saver, 0, NONE, 5, 2, 5);
        kinds(saver, 1, 0, 5, 2, NONE);
    }

    private void noSuchClassToSlacken() {
        WakeSaver saver = Check.told(FAMILY);
        for (int kind : new int[] {7, 8, -1, LEAST, MOST}) {
            no("slacken(" + kind + ", 1)", saver.slacken(kind, 1));
            no("slacken(" + kind + ", -1)", saver.slacken(kind, -1));
        }
        stays(saver, () -> saver.slacken(7, 1));
    }

    // ---- Promise 22: would

    private void wouldSupposes() {
        WakeSaver saver = Check.told("class a;class b of a;class c of b slack 0;once a 0;once b 10;once c 30;"
                + "length 300;");
        same("its own", saver.would(1, 20, 0), 2);
        same("its heirs', too", saver.would(0, 10, 0), 2);
        same("no own one's", saver.would(0, 99, 0), 1);
        same("of c", saver.would(2, 99, 0), 3);
        same("0", saver.would(0, 0, 0), 3);
        kinds(saver, 0, NONE, 0, 1, NONE);
        kinds(saver, 1, 0, 0, 1, NONE);
        kinds(saver, 2, 1, 0, 1, 0);
        wakes(saver, 0, 0, 10, 30);
        for (int what = 0; what < 4; what++) {
            final int asked = what;
            stays(saver, () -> saver.would(0, 50, asked));
        }
    }

    private void wouldTellFewest() {
        WakeSaver saver = Check.told("class a slack 5;once a 0;once a 13;length 20;");
        same("13", saver.would(0, 13, 0), 1);
        same("12", saver.would(0, 12, 0), 2);
        WakeSaver full = Check.told("class a slack 99;every a 1 1;length 200;");
        same("200", full.would(0, 0, 0), 200);
        same("2", full.would(0, 99, 0), 2);
        same("without CALLS", Check.told("class a;once a 61;").would(0, 5, 0), 0);
    }

    private void wouldTellCheapest() {
        WakeSaver saver = Check.told("class a slack 5 weight 2;class b of a;once a 0;once b 4;"
                + "every b 10 3;length 20;price 10;stay 1;");
        same("as it is", saver.would(0, 5, 1), 30);
        same("at once", saver.would(0, 0, 1), 40);
        same("200 WAKES", Check.told("class a slack 99;every a 1 1;length 200;").would(0, 0, 1), 2000);
        same("without CALLS", Check.told("class a;once a 61;").would(0, 5, 1), 0);
    }

    private void wouldTellThriftiest() {
        WakeSaver saver = Check.told("class a slack 5 weight 2;class b of a;once a 0;once b 4;"
                + "every b 10 3;length 20;price 10;stay 1;");
        same("as it is", saver.would(0, 5, 2), 18);
        same("at once", saver.would(0, 0, 2), 23);
        same("200 WAKES", Check.told("class a slack 99;every a 1 1;length 200;").would(0, 0, 2), 10 + 199);
        same("without CALLS", Check.told("class a;once a 61;").would(0, 5, 2), 0);
    }

    private void wouldTellTheRound() {
        WakeSaver two = Check.told("class a;class b slack 9;every a 6 0;every b 6 3;");
        same("ROUND as it is", two.round(2), 1);
        same("less", two.would(1, 2, 3), 2);
        same("just", two.would(1, 3, 3), 1);
        same("most", two.would(1, 99, 3), 1);
        same("ROUND stays", two.round(2), 1);
    }

    private void wouldOfOthers() {
        WakeSaver saver = Check.told("class a slack 5;class b;once a 0;every b 4 0;");
        same("there is a ROUND", saver.would(0, 5, 3), 1);
        for (int other : new int[] {-1, LEAST, MOST}) {
            same("what " + other, saver.would(0, 5, other), NONE);
            for (int what = 0; what < 4; what++) {
                same("slack " + other, saver.would(0, other, what), NONE);
                same("class " + other, saver.would(other, 5, what), NONE);
            }
        }
        for (int what = 0; what < 4; what++) {
            same("slack 100", saver.would(0, 100, what), NONE);
            same("class 2", saver.would(2, 5, what), NONE);
        }
        same("what 4", saver.would(0, 5, 4), NONE);
        same("what 5", saver.would(0, 5, 5), NONE);
    }

    private void wouldOfNoRound() {
        WakeSaver once = Check.told("class a;once a 0;");
        same("no ROUND", once.would(0, 5, 3), NONE);
        same("but FEWEST", once.would(0, 5, 0), 1);
        same("HYPER above 360", Check.told("class a;every a 7 0;every a 52 0;").would(0, 5, 3), NONE);
        String many = "class a;every a 1 61;every a 24 61;every a 45 61;every a 40 61;";
        same("400 CALLS", Check.told(many + "every a 45 61;").would(0, 99, 3), 4);
        same("401 CALLS", Check.told(many + "every a 40 61;").would(0, 99, 3), NONE);
        same("no CLASS", new WakeSaver().would(0, 5, 3), NONE);
    }

    // ---- Promise 23: enough

    private void leastSlackEnough() {
        WakeSaver saver = Check.told("class a slack 5;class b of a;class c;once a 0;once b 50;once c 200;length 300;");
        same("n 3", saver.enough(0, 3), 0);
        same("n most", saver.enough(0, MOST), 0);
        same("n 2", saver.enough(0, 2), 50);
        same("of another class, n 3", saver.enough(2, 3), 0);
        same("b alone", saver.enough(1, 3), 0);
        stays(saver, () -> saver.enough(0, 2));
        same("99 is enough", Check.told("class a;once a 0;once a 99;length 200;").enough(0, 1), 99);
        same("1 is", Check.told("class a slack 9;once a 0;once a 1;").enough(0, 1), 1);
        same("without CALLS", Check.told("class a;once a 61;").enough(0, 0), 0);
    }

    private void enoughOfNoClass() {
        WakeSaver saver = Check.told("class a;class b;once a 0;");
        for (int kind : new int[] {2, -1, LEAST, MOST}) {
            same("enough(" + kind + ", 5)", saver.enough(kind, 5), NONE);
        }
        same("a new object", new WakeSaver().enough(0, 5), NONE);
    }

    private void noSlackEnough() {
        WakeSaver saver = Check.told("class a slack 5;class b of a;class c;once a 0;once b 50;once c 200;length 300;");
        for (int n : new int[] {1, 0, -1, LEAST}) {
            same("enough(0, " + n + ")", saver.enough(0, n), NONE);
        }
        same("of another class", saver.enough(2, 2), NONE);
        same("100 would be", Check.told("class a;once a 0;once a 100;length 200;").enough(0, 1), NONE);
        same("no CALLS, n -1", Check.told("class a;once a 61;").enough(0, -1), NONE);
    }
}

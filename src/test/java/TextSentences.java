/** Promises 1 to 6 and Term 5: a new object, the tape, texts and their faults, counts. */
final class TextSentences extends Sentences {
    private static final String[] WORDS =
        {"class", "of", "slack", "weight", "once", "every", "length", "price", "stay"};
    private static final String EIGHT = "class a;class b;class c;class d;class e;class f;class g;class h;";
    private static final String TOO_MANY_CALLS = "class a;length 300;every a 1 0;";

    TextSentences(Check check) {
        super(check);
    }

    @Override
    void hold() {
        part("What it is", "An object is used for at most 512 calls after it has been made; "
                + "what later calls answer is free.", this::useOf512Calls);
        part("The constants", "The constants: `NONE = -1`: There is none.", this::none);
        promise(1, "No CLASSES, no TIMERS.", this::newObject);
        promise(2, "The tape: twenty bytes come behind it, of each number the highest first: how many it has.",
                this::feedPuts);
        promise(2, "NONE, and nothing comes, if there would be more than 600.", this::feedRefuses);
        promise(3, "The tape has its first n bytes alone: n.", this::endCuts);
        promise(3, "NONE if it has not so many,", this::endOfTooMany);
        promise(3, "or n is below 0.", this::endBelow0);
        promise(4, "The tape is taken (and is empty then) as a TEXT:", this::textTakesTheTape);
        promise(4, "all is as it tells, else as at first,", this::textTellsAll);
        promise(4, "NOW 0, RULE 2:", this::textBeginsAtNow0);
        promise(4, "how many TIMERS.", this::textCountsTimers);
        promise(4, "NONE: a FAULT (all else stays).", this::faultLeavesAllElse);
        promise(5, "Of the latest text(), what 0: the FAULT, 0 without,", this::faultOfTheLatest);
        promise(5, "1: its place, NONE without.", this::placeOfTheLatest);
        promise(5, "NONE for another what.", this::faultOfAnotherWhat);
        promise(6, "What 0: CLASSES, 1: TIMERS, 2: THE CALLS, 3: LENGTH, 4: PRICE, 5: STAY, 6: NOW, 7: RULE, "
                + "8: bytes on the tape.", this::countsAll);
        promise(6, "NONE for another what.", this::countOfAnotherWhat);
        holdTape();
        holdFaults();
    }

    private void holdTape() {
        term(5, "THE TAPE has at most 600 bytes.", this::tapeOf600);
        term(5, "TOKENS, as long as they go,", this::tokensAsLong);
        term(5, "blanks (32, 10) between:", this::blanks);
        term(5, "words, letters a to z;", this::words);
        term(5, "NUMBERS, 1 to 3 digits;", this::numbers);
        term(5, "; one byte.", this::marks);
        term(5, "A TEXT: {LINE ';'}:", this::lines);
        term(5, "'class' NAME ['of' NAME] ['slack' N] ['weight' N]", this::classLines);
        term(5, "| 'once' NAME N", this::onceLines);
        term(5, "| 'every' NAME N N (PERIOD, TICK)", this::everyLines);
        term(5, "| 'length' N | 'price' N | 'stay' N", this::settingLines);
        term(5, "(of these the last one strikes).", this::lastSettingStrikes);
        term(5, "A NAME is no word of those in quotes.", this::namesAreNoWords);
    }

    private void holdFaults() {
        term(5, "FAULTS, with places (a token's first byte;", this::placeOfAToken);
        term(5, "the end's),", this::placeOfTheEnd);
        term(5, "the first that is met,", this::firstFaultMet);
        term(5, "of one place the least:", this::leastFaultOfAPlace);
        term(5, "1 a byte or token with which no text goes on", this::noTextGoesOn);
        term(5, "(a longer row of digits is no token;", this::longerRowOfDigits);
        term(5, "a NAME of 7 letters);", this::nameOf7Letters);
        term(5, "2 a NAME that is none yet,", this::nameNoneYet);
        term(5, "or (behind class) one already;", this::nameAlready);
        term(5, "3 a NUMBER that can't be;", this::numbersThatCantBe);
        term(5, "4 the word of a 9th CLASS,", this::ninthClass);
        term(5, "of a 25th TIMER;", this::timer25);
        term(5, "else, at the end's place, 5 more than 200 CALLS.", this::moreThan200Calls);
    }

    // ---- what it is, a new object

    private void useOf512Calls() {
        // 6 calls: count, three feeds, end, text
        WakeSaver saver = Check.told("class a slack 99 weight 9;every a 2 0;length 300;price 99;");
        int woke = 0;
        for (int k = 0; k < 100; k++) {
            same("ring", saver.ring(0), k + 99);
            same("would", saver.would(0, 99, 0), 4);
            same("enough", saver.enough(0, 4), 74);
            yes("hand", saver.hand(7) > 0);
            woke += saver.go(1);
        }
        same("call 507, the 101st ring", saver.ring(0), NONE);
        woke += saver.go(300);
        same("call 509", saver.hand(2), woke);
        same("call 510", saver.count(6), 301);
        same("call 511", saver.hand(0), 251);
        same("call 512", saver.hand(1), 0);
    }

    private void none() {
        same("NONE", WakeSaver.NONE, -1);
    }

    private void newObject() {
        WakeSaver saver = new WakeSaver();
        counts("new", saver, 0, 0, 0, 60, 10, 1, 0, 2, 0, NONE);
        same("new kind", saver.kind(0, 1), NONE);
        no("new slacken", saver.slacken(0, 5));
        same("new call", saver.call(0, 0), NONE);
        same("new fault(0)", saver.fault(0), 0);
        same("new fault(1)", saver.fault(1), NONE);
        for (int plan = 0; plan < 6; plan++) {
            wakes(saver, plan);
            prices(saver, plan, 0, 0, 0, 0, 0, 0);
        }
        same("new proof", saver.proof(0), NONE);
        hands("new", saver, 0, 0, 0, 0, 0, NONE, NONE, 0, 0, NONE);
        same("new ring", saver.ring(0), NONE);
        same("new now", saver.now(), NONE);
        same("new round", saver.round(0), NONE);
        same("new roundAt", saver.roundAt(0), NONE);
        same("new would", saver.would(0, 5, 0), NONE);
        same("new enough", saver.enough(0, 5), NONE);
        same("new go", saver.go(300), 0);
        same("new end", saver.count(6), 61);
    }

    // ---- feed, end

    private void feedPuts() {
        WakeSaver saver = new WakeSaver();
        // "stay 7;" and blanks, then a byte that is no text
        same("feed", saver.feed(0x73746179, 0x20373b20, 0x0a200a20, 0x20202020, 0x202020ff), 20);
        same("a byte of 255", saver.text(), NONE);
        same("its place", saver.fault(1), 19);
        same("feed, each number's first", saver.feed(0x20202020, 0x20202020, 0x20202020, 0xff202020, 0x20202020), 20);
        same("a byte of 255 again", saver.text(), NONE);
        same("its place again", saver.fault(1), 12);
        same("first half", saver.feed(0x20202020, 0x20202020, 0x20202020, 0x20202020, 0x73746179), 20);
        same("second half", saver.feed(0x20313920, 0x20202020, 0x20202020, 0x20202020, 0x2020203b), 40);
        same("text of two", saver.text(), 0);
        same("its STAY", saver.count(5), 19);
    }

    private void feedRefuses() {
        WakeSaver saver = new WakeSaver();
        for (int k = 1; k <= 30; k++) {
            same("feed", saver.feed(0x20202020, 0x20202020, 0x20202020, 0x20202020, 0x20202020), 20 * k);
        }
        same("feed to 620", saver.feed(0, 0, 0, 0, 0), NONE);
        same("bytes stay", saver.count(8), 600);
        stays(saver, () -> saver.feed(1, 2, 3, 4, 5));
        same("end(581)", saver.end(581), 581);
        same("feed to 601", saver.feed(0, 0, 0, 0, 0), NONE);
        same("none of them came", saver.count(8), 581);
        same("end(580)", saver.end(580), 580);
        same("feed to 600", saver.feed(0x20202020, 0x20202020, 0x20202020, 0x20202020, 0x20202020), 600);
        same("all blanks", saver.text(), 0);
        same("feed behind text", saver.feed(0, 0, 0, 0, 0), 20);
    }

    private void endCuts() {
        WakeSaver saver = new WakeSaver();
        Check.feed(saver, "price 77;stay 3;#price 5");
        same("all of it", saver.end(24), 24);
        same("count(8)", saver.count(8), 24);
        same("to the first 16", saver.end(16), 16);
        same("count(8) then", saver.count(8), 16);
        same("text", saver.text(), 0);
        same("PRICE", saver.count(4), 77);
        same("STAY", saver.count(5), 3);
        Check.feed(saver, "#");
        same("to none", saver.end(0), 0);
        same("none of none", saver.end(0), 0);
        same("count(8) of none", saver.count(8), 0);
        same("empty text", saver.text(), 0);
    }

    private void endOfTooMany() {
        WakeSaver saver = new WakeSaver();
        same("end(1) of none", saver.end(1), NONE);
        Check.feed(saver, "price 77;");
        same("end(10) of 9", saver.end(10), NONE);
        same("end, most", saver.end(MOST), NONE);
        same("9 stay", saver.count(8), 9);
        stays(saver, () -> saver.end(10));
        same("end(9) of 9", saver.end(9), 9);
        same("end(8)", saver.end(8), 8);
        same("what was cut is gone", saver.end(9), NONE);
    }

    private void endBelow0() {
        WakeSaver saver = new WakeSaver();
        same("end(-1) of none", saver.end(-1), NONE);
        Check.feed(saver, "price 77;");
        same("end(-1)", saver.end(-1), NONE);
        same("end, least", saver.end(LEAST), NONE);
        same("9 stay", saver.count(8), 9);
        stays(saver, () -> saver.end(-9));
        same("as a text, too", saver.text(), 0);
        same("its PRICE", saver.count(4), 77);
    }

    // ---- text, fault, count

    private void textTakesTheTape() {
        WakeSaver saver = new WakeSaver();
        same("empty tape", saver.text(), 0);
        same("good", Check.tell(saver, "class a;once a 1;"), 1);
        same("empty behind it", saver.count(8), 0);
        same("a fault", Check.tell(saver, "class a;once a 301;"), NONE);
        same("empty behind a fault", saver.count(8), 0);
        same("and then the next is a text of its own", Check.tell(saver, "stay 9;"), 0);
        same("its STAY", saver.count(5), 9);
    }

    private void textTellsAll() {
        WakeSaver saver = Check.told("class a slack 4 weight 3;every a 1 0;length 9;price 7;stay 2;");
        counts("told", saver, 1, 1, 10, 9, 7, 2);
        same("ROUND of it", saver.round(0), 1);
        same("second text", Check.tell(saver, "class b;once b 0;once b 0;"), 2);
        counts("told anew", saver, 1, 2, 2, 60, 10, 1, 0, 2, 0);
        kinds(saver, 0, NONE, 0, 1, NONE, NONE, 2, 0);
        same("its ROUND", saver.round(0), NONE);
        wakes(saver, 1, 0);
        same("empty text", saver.text(), 0);
        counts("told nothing", saver, 0, 0, 0, 60, 10, 1, 0, 2, 0);
        wakes(saver, 0);
        wakes(saver, 1);
    }

    private void textBeginsAtNow0() {
        WakeSaver saver = Check.told("class a slack 4 weight 3;once a 0;length 9;price 7;stay 2;");
        saver.rule(0);
        saver.go(2);
        for (int k = 0; k < 100; k++) {
            same("ring", saver.ring(0), 6);
        }
        same("ring 101", saver.ring(0), NONE);
        same("HINDSIGHT ahead", saver.hand(7), 13);
        same("text", Check.tell(saver, "class b;once b 0;once b 1;"), 2);
        same("NOW", saver.count(6), 0);
        same("RULE", saver.count(7), 2);
        hands("anew", saver, 1, 1, 0, 0, 0, 0, NONE, 10, 1);
        saver.go(300);
        same("HINDSIGHT of it", saver.hand(8), 2);
        same("text of which nothing comes at 0", Check.tell(saver, "class b slack 3 weight 2;once b 1;price 99;"), 1);
        hands("nothing came", saver, 0, 0, 0, 0, 0, NONE, NONE, 0, 0);
        saver.go(300);
        hands("it waited", saver, 1, 0, 1, 105, 0, NONE, 4, 99, 1);
        same("text", Check.tell(saver, "class b;once b 0;once b 1;"), 2);
        hands("no WAITS, no WAKES", saver, 1, 1, 0, 0, 0, 0, NONE, 10, 1);
        same("100 may be RUNG anew", saver.ring(0), 0);
        same("and are open", saver.hand(1), 2);
        saver.go(300);
        same("at the end", saver.go(1), NONE);
        same("text at the end", Check.tell(saver, "class b;once b 0;"), 1);
        same("goes again", saver.go(1), 1);
    }

    private void textCountsTimers() {
        good("", 0);
        good("class a;length 5;", 0);
        good("class a;once a 61;", 1);
        good("class a;every a 1 0;once a 1;", 2);
        good("class a;" + "once a 1;".repeat(24), 24);
    }

    private void faultLeavesAllElse() {
        WakeSaver saver = Check.told("class a slack 4;every a 5 3;length 9;price 7;stay 2;");
        saver.rule(1);
        saver.go(5);
        saver.slacken(0, 3);
        saver.ring(0);
        String[] faults = {"class b;class c;length 8;price 6;stay 3;once b 301;", "x", "once a 1;", EIGHT + "class i;",
            TOO_MANY_CALLS, "class b slack 9;once b 0;every b 4 0"};
        for (String text : faults) {
            same("text " + text, Check.tell(saver, text), NONE);
        }
        counts("kept", saver, 1, 1, 2, 9, 7, 2, 5, 1, 0);
        kinds(saver, 0, NONE, 3, 1, 3, NONE, 1, 1);
        wakes(saver, 0, 6, 9);
        hands("kept", saver, 2, 2, 0, 0, 2, 7, NONE, 9, 1);
        same("kept FEWEST by another SLACK", saver.would(0, 5, 0), 1);
        stays(saver, () -> Check.tell(saver, faults[0]));
        same("goes on", saver.go(300), 2);
    }

    private void faultOfTheLatest() {
        WakeSaver saver = new WakeSaver();
        same("of no text", saver.fault(0), 0);
        Check.tell(saver, "class a slack 100;");
        same("a fault", saver.fault(0), 3);
        Check.feed(saver, "once a 1;");
        same("not by feed", saver.fault(0), 3);
        saver.text();
        same("the next fault", saver.fault(0), 2);
        Check.tell(saver, "class a;");
        same("none any more", saver.fault(0), 0);
    }

    private void placeOfTheLatest() {
        WakeSaver saver = new WakeSaver();
        same("of no text", saver.fault(1), NONE);
        Check.tell(saver, "class a slack 100;");
        same("a fault", saver.fault(1), 14);
        Check.feed(saver, "#");
        same("not by feed", saver.fault(1), 14);
        saver.text();
        same("at 0", saver.fault(1), 0);
        Check.tell(saver, "");
        same("none any more", saver.fault(1), NONE);
    }

    private void faultOfAnotherWhat() {
        WakeSaver saver = new WakeSaver();
        for (String text : new String[] {"class a;", "class a slack 100;"}) {
            Check.tell(saver, text);
            for (int what : new int[] {2, -1, LEAST, MOST}) {
                same("fault(" + what + ") of " + text, saver.fault(what), NONE);
            }
        }
    }

    private void countsAll() {
        WakeSaver saver = Check.told("class a;class b;once a 61;once a 60;every b 30 1;stay 4;price 44;");
        counts("told", saver, 2, 3, 3, 60, 44, 4, 0, 2, 0);
        Check.feed(saver, "class");
        saver.rule(1);
        saver.go(7);
        counts("gone", saver, 2, 3, 3, 60, 44, 4, 7, 1, 5);
        saver = Check.told("length 59;");
        counts("LENGTH", saver, 0, 0, 0, 59, 10, 1, 0, 2, 0);
    }

    private void countOfAnotherWhat() {
        WakeSaver saver = Check.told("class a;once a 1;");
        for (int what : new int[] {9, -1, LEAST, MOST}) {
            same("count(" + what + ")", saver.count(what), NONE);
        }
    }

    // ---- the tape's tokens

    private void tapeOf600() {
        WakeSaver saver = good(" ".repeat(593) + "stay 7;", 0);
        same("what the last bytes tell", saver.count(5), 7);
        bad(" ".repeat(599) + "#", 1, 599);
        bad("\n".repeat(595) + "stay ", 1, 600);
    }

    private void tokensAsLong() {
        bad("classa;", 1, 0);
        bad("cl ass a;", 1, 0);
        bad("class a;class b ofa;", 1, 16);
        bad("length 3 00;", 1, 9);
        bad("class a;once ab 1;", 2, 13);
        same("LENGTH", good("length 300;", 0).count(3), 300);
        same("one NAME", good("class ab;once ab 1;", 1).count(0), 1);
        // a word and a number end each other
        same("a TICK", good("class a;once a1;", 1).call(0, 0), 1);
        same("a SLACK", good("class a slack9weight8;", 0).kind(0, 1), 9);
    }

    private void blanks() {
        good("class\na\nslack\n5\nweight\n9\n;\n", 0);
        good("\n \nclass \n a;  once\n\na  1 ;\n", 1);
        for (int sign : new int[] {0, 9, 11, 12, 13, 31, 33, 127, 128, 160, 138, 255}) {
            bad("price" + (char) sign + "5;", 1, 5);
            bad("price 5;" + (char) sign, 1, 8);
        }
    }

    private void words() {
        same("a, z", good("class a;class z;class az;", 0).count(0), 3);
        for (int sign : new int[] {'a' - 1, 'z' + 1, 'A', 'Z', '_', 'a' + 128, 'z' - 128 & 255}) {
            bad("class a" + (char) sign + ";", 1, 7);
            bad("class " + (char) sign + ";", 1, 6);
        }
        bad("Price 5;", 1, 0);
        bad("pricE 5;", 1, 0);
    }

    private void numbers() {
        same("one digit", good("length 9;", 0).count(3), 9);
        same("two", good("length 09;", 0).count(3), 9);
        same("three", good("length 009;", 0).count(3), 9);
        same("0 to 9", good("length 123;price 45;length 267;stay 8;length 190;", 0).count(3), 190);
        bad("length 0009;", 1, 7);
        bad("length ;", 1, 7);
        for (int sign : new int[] {'0' - 1, '9' + 1, '-', '+', '.', '0' + 128}) {
            bad("length " + (char) sign + "5;", 1, 7);
            bad("length 5" + (char) sign + ";", 1, 8);
        }
    }

    private void marks() {
        good("price 5;price 6;", 0);
        good("price 5 ;\nprice 6\n; ", 0);
        bad("price 5;;", 1, 8);
        bad("price 5:", 1, 7);
        bad("price 5" + (char) (';' + 128), 1, 7);
    }

    // ---- lines

    private void lines() {
        good("", 0);
        good(" \n ", 0);
        good("stay 1;", 0);
        same("many", good("stay 1;".repeat(85), 0).count(5), 1);
        bad(";", 1, 0);
        bad("stay 1", 1, 6);
        bad("stay 1 stay 2;", 1, 7);
        bad("a;", 1, 0);
        bad("1;", 1, 0);
        bad("of a;", 1, 0);
        bad("slack 1;", 1, 0);
        bad("weight 1;", 1, 0);
        bad("clas a;", 1, 0);
        bad("classes a;", 1, 0);
    }

    private void classLines() {
        WakeSaver saver = good("class a;class b of a;class c slack 1;class d weight 2;class e of a slack 3;"
                + "class f of b weight 4;class g slack 5 weight 6;class h of c slack 7 weight 8;", 0);
        int[][] due = {{NONE, NONE, NONE}, {0, NONE, NONE}, {NONE, 1, NONE}, {NONE, NONE, 2}, {0, 3, NONE},
            {1, NONE, 4}, {NONE, 5, 6}, {2, 7, 8}};
        for (int kind = 0; kind < due.length; kind++) {
            same("PARENT of " + kind, saver.kind(kind, 0), due[kind][0]);
            same("own SLACK of " + kind, saver.kind(kind, 3), due[kind][1]);
            same("own WEIGHT of " + kind, saver.kind(kind, 4), due[kind][2]);
        }
        bad("class;", 1, 5);
        bad("class 1;", 1, 6);
        bad("class a b;", 1, 8);
        bad("class a 5;", 1, 8);
        bad("class a weight 3 slack 2;", 1, 17);
        bad("class a slack 3 of a;", 1, 16);
        bad("class z;class a weight 3 of z;", 1, 25);
        bad("class z;class a of z of z;", 1, 21);
        bad("class a slack 3 slack 3;", 1, 16);
        bad("class a weight 3 weight 3;", 1, 17);
        bad("class a of;", 1, 10);
        bad("class a of 1;", 1, 11);
        bad("class a slack;", 1, 13);
        bad("class a slack b;", 1, 14);
        bad("class a slack weight 5;", 1, 14);
        bad("class a weight;", 1, 14);
    }

    private void onceLines() {
        same("TICK", good("class a;once a 17;", 1).call(0, 0), 17);
        bad("class a;once;", 1, 12);
        bad("class a;once 1;", 1, 13);
        bad("class a;once a;", 1, 14);
        bad("class a;once a a;", 1, 15);
        bad("class a;once a 1 2;", 1, 17);
        bad("class a;once a 1 slack 2;", 1, 17);
    }

    private void everyLines() {
        WakeSaver saver = good("class a;every a 17 2;", 1);
        same("TICK", saver.call(0, 0), 2);
        same("TICK and PERIOD", saver.call(1, 0), 19);
        bad("class a;every;", 1, 13);
        bad("class a;every 1 2;", 1, 14);
        bad("class a;every a;", 1, 15);
        bad("class a;every a 1;", 1, 17);
        bad("class a;every a 1 a;", 1, 18);
        bad("class a;every a 1 2 3;", 1, 20);
    }

    private void settingLines() {
        counts("settings", good("length 31;price 32;stay 13;", 0), 0, 0, 0, 31, 32, 13);
        for (String word : new String[] {"length", "price", "stay"}) {
            int at = word.length() + 1;
            bad(word + ";", 1, at - 1);
            bad(word + " a;", 1, at);
            bad(word + " 5 5;", 1, at + 2);
            bad(word + " 5 a;", 1, at + 2);
        }
    }

    private void lastSettingStrikes() {
        counts("last ones", good("length 5;length 7;price 3;price 2;stay 9;stay 0;", 0), 0, 0, 0, 7, 2, 0);
        counts("mixed", good("stay 9;length 5;price 3;length 7;stay 0;price 2;", 0), 0, 0, 0, 7, 2, 0);
        same("of CALLS, too", good("class a;length 300;every a 1 0;length 3;", 1).count(2), 4);
        bad("length 0;length 5;", 3, 7);
    }

    private void namesAreNoWords() {
        for (String word : WORDS) {
            bad("class " + word + ";", 1, 6);
            bad("once " + word + " 1;", 1, 5);
            bad("every " + word + " 1 1;", 1, 6);
            bad("class a;class b of " + word + ";", 1, 19);
            String less = word.substring(1);
            same("but " + less, good("class " + less + ";once " + less + " 1;", 1).kind(0, 5), 1);
        }
        WakeSaver longer = good("class classy;class off;class slacks;class onces;class everyy;class stays;", 0);
        same("longer ones", longer.count(0), 6);
    }

    // ---- faults

    private void placeOfAToken() {
        bad("  class   a  slack \n 100;", 3, 21);
        bad("class a;once \n\n abc 1;", 2, 16);
        bad("class a; \n wrong;", 1, 11);
        bad("class a;length 12345;", 1, 15);
        bad("#", 1, 0);
        bad("class a#", 1, 7);
    }

    private void placeOfTheEnd() {
        bad("class", 1, 5);
        bad("class  ", 1, 7);
        bad("class a", 1, 7);
        bad("class a of", 1, 10);
        bad("class a slack", 1, 13);
        bad("class a slack 1", 1, 15);
        bad("class a slack 1 \n", 1, 17);
        bad("class a;once a 1", 1, 16);
        bad("class a;every a 1 ", 1, 18);
        bad("price 5 ", 1, 8);
        bad(TOO_MANY_CALLS + " \n ", 5, 34);
    }

    private void firstFaultMet() {
        bad("class a;once b 301;#", 2, 13);
        bad("class a;once a 301;#", 3, 15);
        bad("class a;every a 61 301;", 3, 16);
        bad("class a of b slack 100;", 2, 11);
        bad("class a slack 100 weight 10;", 3, 14);
        bad("class a slack 100 weight;", 3, 14);
        bad("class a slack 5 weight;", 1, 22);
        bad("length 301 5;", 3, 7);
        bad("length 5 301;", 1, 9);
        bad("once a 1000;", 2, 5);
        bad(EIGHT + "price 0;class i;", 3, 70);
        bad(EIGHT + "class i;price 0;", 4, 64);
        bad(TOO_MANY_CALLS + "price 0;", 3, 37);
        bad(TOO_MANY_CALLS + "once b 1;", 2, 36);
    }

    private void leastFaultOfAPlace() {
        bad(TOO_MANY_CALLS + "price", 1, 36);
        bad(TOO_MANY_CALLS + "price 5", 1, 38);
        bad("once abcdefg 1;", 1, 5);
        bad("once class 1;", 1, 5);
        bad("length 1000;", 1, 7);
        bad("length 0000;", 1, 7);
        bad(EIGHT + "classs i;", 1, 64);
    }

    private void noTextGoesOn() {
        for (int sign = 0; sign < 256; sign++) {
            boolean blank = sign == ' ' || sign == 10;
            if (!blank) {
                bad("" + (char) sign, 1, 0);
                bad("stay 1;" + (char) sign, 1, 7);
            }
            if (!blank && sign != ';' && !(sign >= '0' && sign <= '9')) {
                bad("stay 1" + (char) sign + ";", 1, 6);
            }
        }
        bad("price 5;#", 1, 8);
        bad("price -5;", 1, 6);
        bad("class a{;", 1, 7);
        bad("length a;", 1, 7);
        bad("length length;", 1, 7);
        numbersAreNoWords();
    }

    /** The class holds words as numbers, five bits a letter: such a number is not the word itself. */
    private void numbersAreNoWords() {
        for (String word : WORDS) {
            int code = 0;
            for (char letter : word.toCharArray()) {
                code = code * 32 + letter - 'a' + 1;
            }
            bad(code + " a;", 1, 0);
            bad("class b;class a " + code + " b;", 1, 16);
            bad("class b;class a 0" + code + " 5;", 1, 16);
        }
    }

    private void longerRowOfDigits() {
        good("length 060;", 0);
        bad("length 0060;", 1, 7);
        bad("price 1000;", 1, 6);
        bad("class a slack 0005;", 1, 14);
        bad("class a;once a 0001;", 1, 15);
        bad("class a;every a 1 0001;", 1, 18);
        bad("length 4294967297;", 1, 7);
        bad("stay " + "0".repeat(400) + "1;", 1, 5);
        bad("1000", 1, 0);
    }

    private void nameOf7Letters() {
        good("class abcdef;once abcdef 1;", 1);
        bad("class abcdefg;", 1, 6);
        bad("class abcdef;once abcdefg 1;", 1, 18);
        bad("class abcdef;class b of abcdefg;", 1, 24);
        bad("class " + "a".repeat(300) + ";", 1, 6);
        bad("class a;class b " + "slackslack" + ";", 1, 16);
    }

    private void nameNoneYet() {
        bad("once a 1;", 2, 5);
        bad("every a 0 1;", 2, 6);
        bad("class a;once b 1;", 2, 13);
        bad("class a;once aa 301;", 2, 13);
        bad("class abcdef;once abcde 1;", 2, 18);
        bad("class abcdef;once bcdef 1;", 2, 18);
        bad("class a of b;class b;", 2, 11);
        bad("class a of a;", 2, 11);
        bad("once a 1;class a;", 2, 5);
        WakeSaver saver = Check.told("class old;");
        same("a class of the text ahead", Check.tell(saver, "once old 1;"), NONE);
        same("is none yet", saver.fault(0), 2);
    }

    private void nameAlready() {
        bad("class a;class a;", 2, 14);
        bad("class ab;class a;class ab slack 100;", 2, 23);
        bad("class a;class b;class c of b;class b", 2, 35);
        WakeSaver saver = Check.told("class a;");
        same("a class of the text ahead", Check.tell(saver, "class a;"), 0);
    }

    private void numbersThatCantBe() {
        good("class a slack 0 weight 0;class b slack 99 weight 9;once a 0;once a 300;every a 60 300;every a 1 300;"
                + "length 1;length 300;price 1;price 99;stay 0;stay 20;", 4);
        bad("class a slack 100;", 3, 14);
        bad("class a slack 999;", 3, 14);
        bad("class a weight 10;", 3, 15);
        bad("class a;once a 301;", 3, 15);
        bad("class a;every a 0 1;", 3, 16);
        bad("class a;every a 000 1;", 3, 16);
        bad("class a;every a 61 1;", 3, 16);
        bad("class a;every a 60 301;", 3, 19);
        bad("length 0;", 3, 7);
        bad("length 301;", 3, 7);
        bad("price 0;", 3, 6);
        bad("price 100;", 3, 6);
        bad("stay 21;", 3, 5);
    }

    private void ninthClass() {
        good(EIGHT, 0);
        good(EIGHT + "once h 1;length 5;", 1);
        bad(EIGHT + "class i;", 4, 64);
        bad(EIGHT + " \nclass a;", 4, 66);
        bad(EIGHT + "class", 4, 64);
        bad(EIGHT + "class class;", 4, 64);
        bad(EIGHT + "class#", 4, 64);
    }

    private void timer25() {
        String once = "class a;" + "once a 1;".repeat(24);
        String every = "class a;" + "every a 60 1;".repeat(24);
        String both = "class a;" + "every a 60 1;".repeat(12) + "once a 1;".repeat(12);
        good(once, 24);
        good(every, 24);
        good(both + "class b;stay 1;", 24);
        for (String text : new String[] {once, every, both}) {
            bad(text + "once b 1;", 4, text.length());
            bad(text + "every a 1 1;", 4, text.length());
            bad(text + "once", 4, text.length());
            bad(text + "every#", 4, text.length());
        }
    }

    private void moreThan200Calls() {
        same("200", good("class a;length 199;every a 1 0;", 1).count(2), 200);
        bad("class a;length 200;every a 1 0;", 5, 31);
        same("200 from 1 on", good("class a;length 200;every a 1 1;", 1).count(2), 200);
        bad("class a;every a 1 0;length 200; \n", 5, 33);
        // 183, 15, and 2 or 3, one of them just at LENGTH
        String most = "class a;every a 1 0;every a 1 0;every a 1 0;every a 4 1;once a 3;once a 61;every a 9 60;";
        good(most, 7);
        good(most + "once a 61;every a 1 61;", 9);
        bad(most + "once a 60;", 5, 98);
        bad(most + "every a 60 60;", 5, 102);
        bad("class a;length 300;" + "every a 1 0;".repeat(24), 5, 307);
    }
}

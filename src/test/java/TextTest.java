/** Promises 1 to 6: a new object, the tape, texts and their faults, counts. */
public final class TextTest {
    private static final Check CHECK = new Check("TextTest");

    public static void main(String[] args) {
        newObject();
        tape();
        bytesHighestFirst();
        goodTexts();
        unfitTokens();
        wrongNames();
        wrongNumbers();
        tooMany();
        firstFaultWins();
        faultLeavesAllElse();
        textStartsAnew();
        counts();
        CHECK.finish();
    }

    private static void newObject() {
        WakeSaver saver = new WakeSaver();
        int[] due = {0, 0, 0, 60, 10, 1, 0, 2, 0, -1};
        for (int what = 0; what < due.length; what++) {
            CHECK.same("new count(" + what + ")", saver.count(what), due[what]);
        }
        CHECK.same("new count(-1)", saver.count(-1), -1);
        CHECK.same("new fault(0)", saver.fault(0), 0);
        CHECK.same("new fault(1)", saver.fault(1), -1);
        for (int plan = 0; plan < 6; plan++) {
            CHECK.same("new wakes", saver.wakes(plan), 0);
            CHECK.same("new wake", saver.wake(plan, 0), -1);
            for (int what = 0; what < 6; what++) {
                CHECK.same("new price", saver.price(plan, what), 0);
            }
        }
        int[] hand = {0, 0, 0, 0, 0, -1, -1, 0, 0, -1};
        for (int what = 0; what < hand.length; what++) {
            CHECK.same("new hand(" + what + ")", saver.hand(what), hand[what]);
        }
        CHECK.same("new enough", saver.enough(0, 5), -1);
        CHECK.same("new go", saver.go(300), 0);
        CHECK.same("new now", saver.count(6), 61);
    }

    private static void tape() {
        WakeSaver saver = new WakeSaver();
        for (int k = 1; k <= 30; k++) {
            CHECK.same("feed", saver.feed(0, 0, 0, 0, 0), 20 * k);
        }
        CHECK.same("feed beyond 600", saver.feed(0, 0, 0, 0, 0), -1);
        CHECK.same("bytes stay", saver.count(8), 600);
        CHECK.same("end(601)", saver.end(601), -1);
        CHECK.same("end(-1)", saver.end(-1), -1);
        CHECK.same("end(600)", saver.end(600), 600);
        CHECK.same("end(581)", saver.end(581), 581);
        CHECK.same("feed to 601", saver.feed(0, 0, 0, 0, 0), -1);
        CHECK.same("end(582) has not so many", saver.end(582), -1);
        CHECK.same("end(580)", saver.end(580), 580);
        CHECK.same("feed to 600", saver.feed(0, 0, 0, 0, 0), 600);
        CHECK.same("end(0)", saver.end(0), 0);
        CHECK.same("end(1) of none", saver.end(1), -1);
        CHECK.same("end, great", saver.end(Integer.MAX_VALUE), -1);
        CHECK.same("end, small", saver.end(Integer.MIN_VALUE), -1);
    }

    private static void bytesHighestFirst() {
        WakeSaver saver = new WakeSaver();
        // "stay 7;" and blanks, then bytes that are no text
        saver.feed(0x73746179, 0x20373b20, 0x0a200a20, 0x20202020, 0x202020ff);
        CHECK.same("a byte of 255", saver.text(), -1);
        CHECK.same("its fault", saver.fault(0), 1);
        CHECK.same("its place", saver.fault(1), 19);
        saver.feed(0x73746179, 0x20373b20, 0x0a200a20, 0x20202020, 0x80000000);
        CHECK.same("cut away", saver.end(16), 16);
        CHECK.same("text", saver.text(), 0);
        CHECK.same("stay", saver.count(5), 7);
    }

    private static void good(String text, int timers) {
        WakeSaver saver = new WakeSaver();
        CHECK.same("text: " + text, Check.tell(saver, text), timers);
        CHECK.same("fault of " + text, saver.fault(0), 0);
        CHECK.same("place of " + text, saver.fault(1), -1);
        CHECK.same("tape behind " + text, saver.count(8), 0);
    }

    private static void bad(String text, int fault, int place) {
        WakeSaver saver = new WakeSaver();
        CHECK.same("text: " + text, Check.tell(saver, text), -1);
        CHECK.same("fault of " + text, saver.fault(0), fault);
        CHECK.same("place of " + text, saver.fault(1), place);
        CHECK.same("fault(2)", saver.fault(2), -1);
        CHECK.same("fault(-1)", saver.fault(-1), -1);
        CHECK.same("tape behind " + text, saver.count(8), 0);
    }

    private static void goodTexts() {
        good("", 0);
        good(" \n ", 0);
        good("class a;once a 1;every a 2 3;", 2);
        good("class a;once a1;every a2 3;", 2);
        good("class\na\nslack\n5\nweight\n9\n;\n", 0);
        good("class abcdef;class b of abcdef slack 99 weight 0;class c of b weight 007;", 0);
        good("class a slack 000;once a 300;every a 60 300;every a 1 0;", 3);
        good("length 1;length 300;price 1;price 99;stay 0;stay 20;", 0);
        good("class azbycx;class z;class y of z;once z 0;", 1);
        good("class classy;class o;class ofof;once classy 0;", 1);
        good("class a;length 199;every a 1 0;", 1);
        good("class a;length 60;every a 1 0;every a 1 0;every a 1 0;once a 0;once a 61;"
                + "every a 4 1;once a 60;every a 1 61;", 8);
        WakeSaver last = Check.told("length 5;length 7;price 3;price 2;stay 9;stay 0;");
        CHECK.same("last length", last.count(3), 7);
        CHECK.same("last price", last.count(4), 2);
        CHECK.same("last stay", last.count(5), 0);
    }

    private static void unfitTokens() {
        bad(";", 1, 0);
        bad("class a;;", 1, 8);
        bad("class", 1, 5);
        bad("class  ", 1, 7);
        bad("class a", 1, 7);
        bad("class a slack", 1, 13);
        bad("class a slack 1", 1, 15);
        bad("class a of", 1, 10);
        bad("class;", 1, 5);
        bad("class 1;", 1, 6);
        bad("class abcdefg;", 1, 6);
        bad("classes a;", 1, 0);
        bad("clas a;", 1, 0);
        bad("a;", 1, 0);
        bad("1;", 1, 0);
        bad("of a;", 1, 0);
        for (String word : "class of slack weight once every length price stay".split(" ")) {
            bad("class " + word + ";", 1, 6);
            bad("once " + word + " 1;", 1, 5);
            bad("class a;class b of " + word + ";", 1, 19);
        }
        bad("class a weight 3 slack 2;", 1, 17);
        bad("class a slack 3 of a;", 1, 16);
        bad("class a slack 3 slack 3;", 1, 16);
        bad("class a weight 3 weight 3;", 1, 17);
        bad("class a of;", 1, 10);
        bad("class a of slack 5;", 1, 11);
        bad("class a of b slack 100;", 2, 11);
        bad("class a slack weight 5;", 1, 14);
        bad("class a slack 100 weight;", 3, 14);
        bad("class a 5;", 1, 8);
        bad("class a b;", 1, 8);
        bad("class a;once a;", 1, 14);
        bad("class a;once a 1 2;", 1, 17);
        bad("class a;every a 1;", 1, 17);
        bad("class a;every a 1 2 3;", 1, 20);
        bad("class a;once a b;", 1, 15);
        bad("length;", 1, 6);
        bad("length a;", 1, 7);
        bad("length 0060;", 1, 7);
        bad("price 1000;", 1, 6);
        bad("price 5 5;", 1, 8);
        bad("price 5", 1, 7);
        bad("price 5 ", 1, 8);
        bad("price 5;#", 1, 8);
        bad("price\t5;", 1, 5);
        bad("price\r5;", 1, 5);
        bad("Price 5;", 1, 0);
        bad("pricE 5;", 1, 0);
        bad("price -5;", 1, 6);
        bad("price 5\0;", 1, 7);
        bad("price 5" + (char) 0xbb + ";", 1, 7);
        bad("class a{;", 1, 7);
        bad("class a`;", 1, 7);
        bad("class a/;", 1, 7);
        bad("class a:;", 1, 7);
    }

    private static void wrongNames() {
        bad("class a;class a;", 2, 14);
        bad("class ab;class a;class ab slack 100;", 2, 23);
        bad("once a 1;", 2, 5);
        bad("every a 0 1;", 2, 6);
        bad("class a of b;class b;", 2, 11);
        bad("class a of a;", 2, 11);
        bad("class a;once aa 301;", 2, 13);
        bad("class abcdef;once abcde 1;", 2, 18);
    }

    private static void wrongNumbers() {
        bad("class a slack 100;", 3, 14);
        bad("class a weight 10;", 3, 15);
        bad("class a slack 100 weight 10;", 3, 14);
        bad("class a;once a 301;", 3, 15);
        bad("class a;every a 0 1;", 3, 16);
        bad("class a;every a 61 1;", 3, 16);
        bad("class a;every a 60 301;", 3, 19);
        bad("length 0;", 3, 7);
        bad("length 301;", 3, 7);
        bad("length 999;", 3, 7);
        bad("price 0;", 3, 6);
        bad("price 100;", 3, 6);
        bad("stay 21;", 3, 5);
    }

    private static void tooMany() {
        String eight = "class a;class b;class c;class d;class e;class f;class g;class h;";
        good(eight, 0);
        bad(eight + "class a;", 4, 64);
        bad(eight + "class", 4, 64);
        bad(eight + "classy", 1, 64);
        StringBuilder text = new StringBuilder("class a;");
        for (int k = 0; k < 24; k++) {
            text.append("once a 1;");
        }
        good(text.toString(), 24);
        bad(text + "once b 1;", 4, 224);
        bad(text + "every", 4, 224);
        bad(text + "length 0;", 3, 231);
        bad("class a;length 200;every a 1 0;", 5, 31);
        bad("class a;every a 1 0;length 200; \n", 5, 33);
        bad("class a;every a 1 0;every a 1 0;every a 1 0;every a 3 3;", 5, 56);
        // 183, 15, and 2 or 3, one of them just at LENGTH
        String most = "class a;every a 1 0;every a 1 0;every a 1 0;every a 4 1;once a 3;once a 61;every a 9 60;";
        good(most, 7);
        bad(most + "once a 60;", 5, 98);
        bad(most + "every a 60 60;", 5, 102);
    }

    private static void firstFaultWins() {
        bad("class a;once b 301;#", 2, 13);
        bad("class a;once a 301;#", 3, 15);
        bad("length 300;class a;every a 1 0;price 0;", 3, 37);
        bad("length 300;class a;every a 1 0;price", 1, 36);
    }

    private static void faultLeavesAllElse() {
        WakeSaver saver = Check.told("class a slack 4;once a 3;length 9;price 7;stay 2;");
        saver.rule(1);
        saver.go(5);
        CHECK.same("bad text", Check.tell(saver, "class b;class c;length 8;price 6;stay 3;once b 301;"), -1);
        int[] due = {1, 1, 1, 9, 7, 2, 5, 1, 0};
        for (int what = 0; what < due.length; what++) {
            CHECK.same("kept count(" + what + ")", saver.count(what), due[what]);
        }
        CHECK.same("kept slack", saver.kind(0, 1), 4);
        CHECK.same("kept call", saver.call(0, 1), 7);
        CHECK.same("kept by hand", saver.hand(1), 1);
        CHECK.same("bad text again", Check.tell(saver, "x"), -1);
        CHECK.same("kept call again", saver.call(0, 1), 7);
        CHECK.same("fault", saver.fault(0), 1);
        CHECK.same("good text", Check.tell(saver, "class b;"), 0);
        CHECK.same("fault is gone", saver.fault(0), 0);
        CHECK.same("place is gone", saver.fault(1), -1);
    }

    private static void textStartsAnew() {
        WakeSaver saver = Check.told("class a slack 4 weight 3;once a 0;length 9;price 7;stay 2;");
        saver.rule(0);
        saver.go(2);
        saver.ring(0);
        CHECK.same("HINDSIGHT ahead", saver.hand(7), 13);
        CHECK.same("second text", Check.tell(saver, "class b;once b 0;once b 0;"), 2);
        int[] due = {1, 2, 2, 60, 10, 1, 0, 2, 0};
        for (int what = 0; what < due.length; what++) {
            CHECK.same("anew count(" + what + ")", saver.count(what), due[what]);
        }
        int[] hand = {2, 2, 0, 0, 0, 0, -1, 10, 1};
        for (int what = 0; what < hand.length; what++) {
            CHECK.same("anew hand(" + what + ")", saver.hand(what), hand[what]);
        }
        CHECK.same("slack anew", saver.kind(0, 3), -1);
        CHECK.same("weight anew", saver.kind(0, 2), 1);
    }

    private static void counts() {
        WakeSaver saver = Check.told("class a;class b;once a 61;once a 60;every b 30 1;stay 4;price 44;");
        int[] due = {2, 3, 3, 60, 44, 4, 0, 2, 0};
        for (int what = 0; what < due.length; what++) {
            CHECK.same("count(" + what + ")", saver.count(what), due[what]);
        }
        Check.feed(saver, "class");
        CHECK.same("count(8)", saver.count(8), 5);
        CHECK.same("count(9)", saver.count(9), -1);
        CHECK.same("count, small", saver.count(Integer.MIN_VALUE), -1);
    }
}

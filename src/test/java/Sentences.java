import java.util.ArrayList;
import java.util.List;

/** A group of tests, each of which says which part of the document it holds, and which words. */
abstract class Sentences {
    record Quote(String part, String words) { }

    static final int NONE = WakeSaver.NONE;
    static final int LEAST = Integer.MIN_VALUE;
    static final int MOST = Integer.MAX_VALUE;

    private final Check check;
    private final List<Quote> quotes = new ArrayList<>();
    private String held = "";

    Sentences(Check check) {
        this.check = check;
    }

    /** Runs every test of the group. */
    abstract void hold();

    List<Quote> quotes() {
        return quotes;
    }

    final void promise(int number, String words, Runnable test) {
        part("Promise " + number, words, test);
    }

    final void term(int number, String words, Runnable test) {
        part("Term " + number, words, test);
    }

    final void part(String part, String words, Runnable test) {
        quotes.add(new Quote(part, words));
        held = part + " \"" + words + "\": ";
        int before = check.compared();
        test.run();
        check.yes(held + "anything is compared", check.compared() > before);
    }

    final void same(String what, long got, long want) {
        check.same(held + what, got, want);
    }

    final void yes(String what, boolean got) {
        check.yes(held + what, got);
    }

    final void no(String what, boolean got) {
        check.no(held + what, got);
    }

    /** What an object answers to some 70 calls that change nothing, as one text. */
    private static String shown(WakeSaver saver) {
        StringBuilder all = new StringBuilder();
        for (int what = 0; what < 9; what++) {
            all.append(saver.count(what)).append(' ').append(saver.hand(what)).append(' ');
        }
        for (int what = 0; what < 7; what++) {
            all.append(saver.kind(0, what)).append(' ').append(saver.kind(1, what)).append(' ');
        }
        for (int plan = 0; plan < 6; plan++) {
            all.append(saver.wakes(plan)).append(' ').append(saver.wake(plan, 0)).append(' ');
            all.append(saver.price(plan, 1)).append(' ').append(saver.call(plan, 1)).append(' ');
        }
        for (int what = 0; what < 4; what++) {
            all.append(saver.round(what)).append(' ').append(saver.roundAt(what)).append(' ');
        }
        return all.toString();
    }

    /** Calls that are refused, or only ask, leave all as it was. */
    final void stays(WakeSaver saver, Runnable calls) {
        String before = shown(saver);
        calls.run();
        String after = shown(saver);
        yes("all stays: " + before + "is " + after, after.equals(before));
    }

    /** A text without a fault, told to a new object. */
    final WakeSaver good(String text, int timers) {
        WakeSaver saver = new WakeSaver();
        same("text " + text, Check.tell(saver, text), timers);
        same("fault of " + text, saver.fault(0), 0);
        same("place of " + text, saver.fault(1), NONE);
        return saver;
    }

    final void bad(String text, int fault, int place) {
        WakeSaver saver = new WakeSaver();
        same("text " + text, Check.tell(saver, text), NONE);
        same("fault of " + text, saver.fault(0), fault);
        same("place of " + text, saver.fault(1), place);
    }

    final void counts(String what, WakeSaver saver, int... due) {
        for (int k = 0; k < due.length; k++) {
            same(what + ", count(" + k + ")", saver.count(k), due[k]);
        }
    }

    final void kinds(WakeSaver saver, int kind, int... due) {
        for (int what = 0; what < due.length; what++) {
            same("kind(" + kind + ", " + what + ")", saver.kind(kind, what), due[what]);
        }
    }

    /** FROM and LATEST of each of THE CALLS, one behind the other. */
    final void calls(String text, int... due) {
        WakeSaver saver = Check.told(text);
        same("THE CALLS of " + text, saver.count(2), due.length / 2);
        for (int k = 0; k < due.length; k++) {
            same("call(" + k / 2 + ", " + k % 2 + ") of " + text, saver.call(k / 2, k % 2), due[k]);
        }
    }

    final void wakes(WakeSaver saver, int plan, int... due) {
        same("wakes(" + plan + ")", saver.wakes(plan), due.length);
        for (int k = 0; k < due.length; k++) {
            same("wake(" + plan + ", " + k + ")", saver.wake(plan, k), due[k]);
        }
        same("behind the last, wake(" + plan + ", " + due.length + ")", saver.wake(plan, due.length), NONE);
    }

    final void wakes(String text, int plan, int... due) {
        wakes(Check.told(text), plan, due);
    }

    final void prices(WakeSaver saver, int plan, int... due) {
        for (int what = 0; what < due.length; what++) {
            same("price(" + plan + ", " + what + ")", saver.price(plan, what), due[what]);
        }
    }

    final void hands(String what, WakeSaver saver, int... due) {
        for (int k = 0; k < due.length; k++) {
            same(what + ", hand(" + k + ")", saver.hand(k), due[k]);
        }
    }

    /** A ROUND: HYPER, CALLS by HYPER, then its WAKES from p on. */
    final void round(String text, int hyper, int calls, int... wakes) {
        WakeSaver saver = Check.told(text);
        same("HYPER of " + text, saver.round(0), hyper);
        same("CALLS of " + text, saver.round(1), calls);
        same("WAKES of " + text, saver.round(2), wakes.length);
        same("p of " + text, saver.round(3), wakes[0]);
        for (int k = 0; k < wakes.length; k++) {
            same("roundAt(" + k + ") of " + text, saver.roundAt(k), wakes[k]);
        }
        same("behind the last of " + text, saver.roundAt(wakes.length), NONE);
    }

    final void noRound(String text) {
        WakeSaver saver = Check.told(text);
        for (int what = 0; what < 4; what++) {
            same("round(" + what + ") of " + text, saver.round(what), NONE);
        }
        same("roundAt(0) of " + text, saver.roundAt(0), NONE);
    }
}

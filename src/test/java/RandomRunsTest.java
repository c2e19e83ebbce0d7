import java.util.Random;

/** All promises: random runs of calls, each answer compared with the plain model's. */
public final class RandomRunsTest {
    private static final Check CHECK = new Check("RandomRunsTest");
    private static final String[] NAMES = {"a", "b", "cc", "abcdef", "zz", "net", "disk", "x", "late"};
    private static final String[] SCRAPS = {"class", "of", "slack", "weight", "once", "every", "length", "price",
        "stay", ";", " ", "\n", "0", "5", "100", "301", "1000", "a", "abcdefg", "#", "A", "\u00ff", "\0"};

    private final Random random;
    private final WakeSaver saver = new WakeSaver();
    private final Model model = new Model();
    private final String run;
    private final boolean small;

    private RandomRunsTest(int seed) {
        random = new Random(seed);
        run = "run " + seed;
        small = seed % 4 != 0;
    }

    public static void main(String[] args) {
        int runs = args.length > 0 ? Integer.parseInt(args[0]) : 400;
        int first = args.length > 1 ? Integer.parseInt(args[1]) : 0;
        for (int seed = first; seed < first + runs; seed++) {
            new RandomRunsTest(seed).all();
        }
        CHECK.finish();
    }

    private void all() {
        for (int texts = 0; texts < 4; texts++) {
            String text = text();
            tell(random.nextInt(3) == 0 ? spoiled(text) : text);
            int calls = small ? 60 : 12;
            for (int k = 0; k < calls; k++) {
                one();
            }
        }
    }

    private int below(int n) {
        return random.nextInt(n);
    }

    private String text() {
        StringBuilder text = new StringBuilder();
        int kinds = 1 + below(random.nextInt(4) == 0 ? 8 : 4);
        for (int k = 0; k < kinds; k++) {
            text.append("class ").append(NAMES[k]);
            text.append(k > 0 && below(2) == 0 ? " of " + NAMES[below(k)] : "");
            text.append(below(3) > 0 ? " slack " + below(small ? 8 : 100) : "");
            text.append(below(2) > 0 ? " weight " + below(10) : "").append(";");
        }
        int length = small ? 1 + below(14) : 1 + below(300);
        int timers = below(small ? 7 : 12);
        for (int k = 0; k < timers; k++) {
            String name = NAMES[below(kinds)];
            int tick = below(Math.min(301, length + 3));
            text.append(below(2) == 0 ? "once " + name + " " + tick : "every " + name + " " + period() + " " + tick);
            text.append(below(5) == 0 ? " ;\n" : ";");
        }
        text.append("length ").append(length).append(";");
        if (below(4) > 0) {
            text.append("price ").append(1 + below(below(2) == 0 ? 99 : 15)).append(";");
        }
        if (below(4) > 0) {
            text.append("stay ").append(below(below(2) == 0 ? 21 : 4)).append(";");
        }
        return text.toString();
    }

    private int period() {
        int[] friendly = {1, 2, 3, 4, 5, 6, 8, 9, 10, 12, 15, 18, 20, 24, 30, 36, 40, 45, 60};
        return below(4) == 0 ? 1 + below(60) : friendly[small ? below(10) : 4 + below(15)];
    }

    private String spoiled(String text) {
        StringBuilder spoilt = new StringBuilder(text);
        for (int k = 0; k <= below(3); k++) {
            int at = below(spoilt.length() + 1);
            switch (below(4)) {
                case 0 -> spoilt.setLength(at);
                case 1 -> spoilt.delete(at, Math.min(spoilt.length(), at + 1 + below(6)));
                case 2 -> spoilt.insert(at, " " + SCRAPS[below(SCRAPS.length)] + " ");
                default -> spoilt.insert(at, SCRAPS[below(SCRAPS.length)]);
            }
        }
        return spoilt.toString();
    }

    private void tell(String text) {
        for (int at = 0; at < text.length(); at += 20) {
            int[] five = new int[5];
            for (int k = 0; k < 20; k++) {
                int sign = at + k < text.length() ? text.charAt(at + k) & 255 : 32;
                five[k / 4] = five[k / 4] << 8 | sign;
            }
            same("feed", saver.feed(five[0], five[1], five[2], five[3], five[4]), model.feed(five));
        }
        same("end", saver.end(text.length()), model.end(text.length()));
        same("text " + text, saver.text(), model.text());
        for (int what = 0; what < 3; what++) {
            same("fault(" + what + ") of " + text, saver.fault(what), model.fault(what));
        }
        for (int what = 0; what < 10; what++) {
            same("count(" + what + ") of " + text, saver.count(what), model.count(what));
        }
    }

    private void same(String what, int got, int want) {
        CHECK.same(run + ": " + what, got, want);
    }

    private void same(String what, boolean got, boolean want) {
        same(what, got ? 1 : 0, want ? 1 : 0);
    }

    /** Mostly a number that fits, at times one at or beyond the edges. */
    private int about(int n) {
        int[] odd = {-1, n, n + 1, -2, Integer.MIN_VALUE, Integer.MAX_VALUE};
        return below(12) == 0 ? odd[below(odd.length)] : below(Math.max(n, 1));
    }

    private void one() {
        int kind = about(model.count(0));
        int plan = about(6);
        switch (below(22)) {
            case 0 -> whole(plan);
            case 1 -> prices(plan);
            case 2, 3 -> hand();
            case 4 -> same("proof", saver.proof(plan), model.proof(plan));
            case 5 -> {
                int call = about(model.count(2));
                same("answer(" + plan + ", " + call + ")", saver.answer(plan, call), model.answer(plan, call));
                same("call", saver.call(call, plan), model.call(call, plan));
            }
            case 6 -> {
                int what = about(7);
                same("kind(" + kind + ", " + what + ")", saver.kind(kind, what), model.kind(kind, what));
            }
            case 7, 8 -> {
                int slack = about(small ? 12 : 100);
                same("slacken(" + kind + ", " + slack + ")", saver.slacken(kind, slack), model.slacken(kind, slack));
            }
            case 9, 10, 11, 12 -> {
                int n = below(10) == 0 ? about(301) : 1 + below(small ? 4 : 40);
                same("go(" + n + ")", saver.go(n), model.go(n));
            }
            case 13, 14 -> same("ring(" + kind + ")", saver.ring(kind), model.ring(kind));
            case 15 -> same("now()", saver.now(), model.now());
            case 16 -> {
                int rule = about(3);
                same("rule(" + rule + ")", saver.rule(rule), model.rule(rule));
            }
            case 17, 18 -> rounds();
            case 19, 20 -> {
                int slack = about(small ? 12 : 100);
                int what = about(4);
                same("would(" + kind + ", " + slack + ", " + what + ")", saver.would(kind, slack, what),
                        model.would(kind, slack, what));
            }
            default -> {
                int n = about(small ? 6 : 30);
                same("enough(" + kind + ", " + n + ")", saver.enough(kind, n), model.enough(kind, n));
            }
        }
    }

    private void whole(int plan) {
        int wakes = model.wakes(plan);
        same("wakes(" + plan + ")", saver.wakes(plan), wakes);
        for (int k = -1; k <= wakes; k++) {
            same("wake(" + plan + ", " + k + ")", saver.wake(plan, k), model.wake(plan, k));
        }
    }

    private void prices(int plan) {
        for (int what = -1; what < 7; what++) {
            same("price(" + plan + ", " + what + ")", saver.price(plan, what), model.price(plan, what));
        }
    }

    private void hand() {
        for (int what = -1; what < 10; what++) {
            same("hand(" + what + ")", saver.hand(what), model.hand(what));
        }
        same("count(6)", saver.count(6), model.count(6));
        same("count(7)", saver.count(7), model.count(7));
    }

    private void rounds() {
        for (int what = -1; what < 5; what++) {
            same("round(" + what + ")", saver.round(what), model.round(what));
        }
        for (int k = -1; k <= model.round(2) && k < 8; k++) {
            same("roundAt(" + k + ")", saver.roundAt(k), model.roundAt(k));
        }
    }
}

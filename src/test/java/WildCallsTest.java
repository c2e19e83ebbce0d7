import java.util.Random;

/**
 * No call throws or fails to end, for any arguments in any state, behind the 512th call too; and
 * what is not there is answered by NONE, never by less.
 */
public final class WildCallsTest {
    private static final Check CHECK = new Check("WildCallsTest");
    private static final int[] EDGES = {Integer.MIN_VALUE, Integer.MIN_VALUE + 1, -1000, -2, -1, 0, 1, 2, 3, 5, 6, 7, 8,
        9, 10, 23, 24, 99, 100, 199, 200, 201, 299, 300, 301, 359, 360, 400, 600, 601, 1 << 24, 0x7ffffffe, 0x7fffffff};
    private static final String[] WORDS = {"class ", "of ", "slack ", "weight ", "once ", "every ", "length ", "price ",
        "stay ", ";", ";", ";", "\n", "0 ", "1 ", "9 ", "60 ", "99 ", "300 ", "301 ", "a ", "b ", "abcdef ", "#"};

    private final Random random;
    private final WakeSaver saver = new WakeSaver();

    private WildCallsTest(int seed) {
        random = new Random(seed);
    }

    public static void main(String[] args) {
        for (int seed = 0; seed < 400; seed++) {
            WildCallsTest run = new WildCallsTest(seed);
            for (int call = 0; call < 1000; call++) {
                int answer = run.any();
                CHECK.yes("run " + seed + ", call " + call + " answers " + answer, answer >= WakeSaver.NONE);
            }
        }
        CHECK.finish();
    }

    private int number() {
        return random.nextInt(10) == 0 ? random.nextInt() : EDGES[random.nextInt(EDGES.length)];
    }

    /** Mostly a full text that has no fault, else words as they fall. */
    private int tell() {
        StringBuilder text = new StringBuilder();
        if (random.nextInt(3) > 0) {
            text.append("class a slack 99 weight 9;class b of a;class c slack ").append(random.nextInt(100)).append(';');
            for (int timer = random.nextInt(22); timer >= 0; timer--) {
                String name = " " + (char) ('a' + random.nextInt(3)) + " ";
                text.append(random.nextInt(4) == 0 ? "once" + name : "every" + name + (1 + random.nextInt(60)) + " ");
                text.append(random.nextInt(301)).append(';');
            }
            text.append("length ").append(1 + random.nextInt(300)).append(';');
        } else {
            for (int k = random.nextInt(60); k >= 0; k--) {
                text.append(WORDS[random.nextInt(WORDS.length)]);
            }
        }
        saver.end(0);
        return Check.tell(saver, text.toString());
    }

    private int any() {
        int a = number();
        int b = number();
        int c = number();
        switch (random.nextInt(24)) {
            case 0: return saver.feed(a, b, c, number(), number());
            case 1: return saver.end(a);
            case 2: return random.nextInt(4) == 0 ? saver.text() : saver.end(0);
            case 3: return saver.fault(a);
            case 4: return saver.count(a);
            case 5: return saver.kind(a, b);
            case 6: return saver.slacken(a, b) ? 1 : 0;
            case 7: return saver.call(a, b);
            case 8: return saver.wakes(a);
            case 9: return saver.wake(a, b);
            case 10: return saver.price(a, b);
            case 11: return saver.proof(a);
            case 12: return saver.answer(a, b);
            case 13: return saver.rule(a) ? 1 : 0;
            case 14: return saver.go(a);
            case 15: return saver.ring(a);
            case 16: return saver.now();
            case 17: return saver.hand(a);
            case 18: return saver.round(a);
            case 19: return saver.roundAt(a);
            case 20: return saver.would(a, b, c);
            case 21: return saver.enough(a, b);
            default: return random.nextInt(8) == 0 ? tell() : saver.ring(random.nextInt(3));
        }
    }
}

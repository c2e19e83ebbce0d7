import java.util.ArrayList;
import java.util.Arrays;
import java.util.HashMap;
import java.util.List;
import java.util.Map;
import java.util.regex.Matcher;
import java.util.regex.Pattern;

/**
 * The document in its plainest form, slow and by other ways than the class: the tests compare the
 * two. Best wakes are compared as whole rows; short ones are looked for among all sets of ticks.
 */
final class Model {
    static final int NONE = -1;

    record Call(int from, int latest, int weight, int timer) { }

    record Kind(String name, int parent, int slack, int weight) { }

    record Timer(int kind, int period, int tick) { }

    private final StringBuilder tape = new StringBuilder();
    private List<Kind> kinds = new ArrayList<>();
    private List<Timer> timers = new ArrayList<>();
    private int length = 60;
    private int price = 10;
    private int stay = 1;
    private int fault = 0;
    private int place = NONE;

    private int now = 0;
    private int rule = 2;
    private int rung = 0;
    private final List<Call> came = new ArrayList<>();
    private final List<Integer> answeredAt = new ArrayList<>();
    private final List<Integer> handWakes = new ArrayList<>();

    /** The plans asked for since the classes last changed; the round has a number of its own. */
    private final Map<Integer, List<Integer>> made = new HashMap<>();
    private static final int ROUND = 1000;

    // ---- tape and text

    int feed(int... numbers) {
        if (tape.length() + 20 > 600) {
            return NONE;
        }
        for (int number : numbers) {
            for (int k = 3; k >= 0; k--) {
                tape.append((char) (number >> 8 * k & 255));
            }
        }
        return tape.length();
    }

    int end(int n) {
        if (n < 0 || n > tape.length()) {
            return NONE;
        }
        tape.setLength(n);
        return n;
    }

    private static final Pattern TOKEN = Pattern.compile("[ \\n]*([a-z]+|[0-9]+|.|$)", Pattern.DOTALL);
    private static final List<String> WORDS =
            List.of("class", "of", "slack", "weight", "once", "every", "length", "price", "stay");

    private static final class Fault extends RuntimeException {
        private static final long serialVersionUID = 1;
        final int number;
        final int place;

        Fault(int number, int place) {
            this.number = number;
            this.place = place;
        }
    }

    int text() {
        String text = tape.toString();
        tape.setLength(0);
        fault = 0;
        place = NONE;
        try {
            take(text);
        } catch (Fault met) {
            fault = met.number;
            place = met.place;
            return NONE;
        }
        return timers.size();
    }

    /** The shape of each line: n a new name, k a known one, a digit a number of that sort. */
    private static String shapeBehind(String word) {
        return switch (word) {
            case "class" -> "n";
            case "of" -> "k";
            case "slack" -> "0";
            case "weight" -> "1";
            case "once" -> "k2";
            case "every" -> "k32";
            case "length" -> "4";
            case "price" -> "5";
            case "stay" -> "6";
            default -> "";
        };
    }

    private static final int[][] RANGES = {{0, 99}, {0, 9}, {0, 300}, {1, 60}, {1, 300}, {1, 99}, {0, 20}};

    private void take(String text) {
        List<Kind> newKinds = new ArrayList<>();
        List<Timer> newTimers = new ArrayList<>();
        int[] settings = {60, 10, 1};
        List<String> allowed = List.of("class", "once", "every", "length", "price", "stay");
        String word = "";
        String shape = "";
        String line = "";
        String name = "";
        int[] own = {NONE, NONE, NONE};
        List<Integer> numbers = new ArrayList<>();
        Matcher tokens = TOKEN.matcher(text);
        while (tokens.find()) {
            String token = tokens.group(1);
            int at = tokens.start(1);
            if (token.isEmpty()) {
                if (!line.isEmpty()) {
                    throw new Fault(1, at);
                }
                break;
            }
            if (!shape.isEmpty()) {
                char wanted = shape.charAt(0);
                shape = shape.substring(1);
                if (wanted == 'n' || wanted == 'k') {
                    if (!token.matches("[a-z]{1,6}") || WORDS.contains(token)) {
                        throw new Fault(1, at);
                    }
                    int known = NONE;
                    for (int k = 0; k < newKinds.size(); k++) {
                        known = newKinds.get(k).name.equals(token) ? k : known;
                    }
                    if (known == NONE == (wanted == 'k')) {
                        throw new Fault(2, at);
                    }
                    name = wanted == 'n' ? token : name;
                    own[0] = known;
                } else {
                    if (!token.matches("[0-9]{1,3}")) {
                        throw new Fault(1, at);
                    }
                    int number = Integer.parseInt(token);
                    int[] range = RANGES[wanted - '0'];
                    if (number < range[0] || number > range[1]) {
                        throw new Fault(3, at);
                    }
                    if (wanted == '0' || wanted == '1') {
                        own[1 + wanted - '0'] = number;
                    }
                    numbers.add(number);
                }
                continue;
            }
            if (!line.isEmpty() && token.equals(";")) {
                switch (line) {
                    case "class" -> newKinds.add(new Kind(name, own[0], own[1], own[2]));
                    case "once" -> newTimers.add(new Timer(own[0], 0, numbers.get(0)));
                    case "every" -> newTimers.add(new Timer(own[0], numbers.get(0), numbers.get(1)));
                    default -> settings[List.of("length", "price", "stay").indexOf(line)] = numbers.get(0);
                }
                allowed = List.of("class", "once", "every", "length", "price", "stay");
                line = "";
                numbers.clear();
                Arrays.fill(own, NONE);
                continue;
            }
            if (!allowed.contains(token)) {
                throw new Fault(1, at);
            }
            word = token;
            if (line.isEmpty()) {
                line = word;
                boolean full = word.equals("class") && newKinds.size() == 8
                        || (word.equals("once") || word.equals("every")) && newTimers.size() == 24;
                if (full) {
                    throw new Fault(4, at);
                }
                allowed = word.equals("class") ? List.of("of", "slack", "weight") : List.of();
            } else {
                List<String> order = List.of("of", "slack", "weight");
                allowed = order.subList(order.indexOf(word) + 1, 3);
            }
            shape = shapeBehind(word);
        }
        Model told = new Model();
        told.kinds = newKinds;
        told.timers = newTimers;
        told.length = settings[0];
        if (told.theCalls().size() > 200) {
            throw new Fault(5, text.length());
        }
        kinds = newKinds;
        timers = newTimers;
        length = settings[0];
        price = settings[1];
        stay = settings[2];
        now = 0;
        rule = 2;
        rung = 0;
        made.clear();
        came.clear();
        answeredAt.clear();
        handWakes.clear();
        come();
    }

    int fault(int what) {
        return what == 0 ? fault : what == 1 ? place : NONE;
    }

    int count(int what) {
        int[] all = {kinds.size(), timers.size(), theCalls().size(), length, price, stay, now, rule, tape.length()};
        return what >= 0 && what < all.length ? all[what] : NONE;
    }

    // ---- classes

    private boolean has(int kind) {
        return kind >= 0 && kind < kinds.size();
    }

    private int slack(int kind) {
        if (kind == NONE) {
            return 0;
        }
        Kind it = kinds.get(kind);
        return it.slack != NONE ? it.slack : slack(it.parent);
    }

    private int weight(int kind) {
        if (kind == NONE) {
            return 1;
        }
        Kind it = kinds.get(kind);
        return it.weight != NONE ? it.weight : weight(it.parent);
    }

    int kind(int kind, int what) {
        if (!has(kind)) {
            return NONE;
        }
        Kind it = kinds.get(kind);
        int of = (int) timers.stream().filter(timer -> timer.kind == kind).count();
        int bits = 0;
        if (it.slack != NONE) {
            bits = 1 << kind;
            for (int k = kind + 1; k < kinds.size(); k++) {
                Kind heir = kinds.get(k);
                if (heir.slack == NONE && heir.parent != NONE && (bits >> heir.parent & 1) == 1) {
                    bits |= 1 << k;
                }
            }
        }
        int[] all = {it.parent, slack(kind), weight(kind), it.slack, it.weight, of, bits};
        return what >= 0 && what < all.length ? all[what] : NONE;
    }

    boolean slacken(int kind, int slack) {
        if (!has(kind) || slack < -1 || slack > 99 || kinds.get(kind).slack == slack) {
            return false;
        }
        Kind it = kinds.get(kind);
        made.clear();
        kinds.set(kind, new Kind(it.name, it.parent, slack, it.weight));
        return true;
    }

    // ---- plans

    List<Call> theCalls() {
        List<Call> calls = new ArrayList<>();
        for (int k = 0; k < timers.size(); k++) {
            Timer timer = timers.get(k);
            for (int from = timer.tick; from <= length; from += timer.period) {
                calls.add(new Call(from, Math.min(length, from + slack(timer.kind)), weight(timer.kind), k));
                if (timer.period == 0) {
                    break;
                }
            }
        }
        calls.sort((a, b) -> a.from != b.from ? a.from - b.from : a.timer - b.timer);
        return calls;
    }

    int call(int k, int what) {
        List<Call> calls = theCalls();
        if (k < 0 || k >= calls.size()) {
            return NONE;
        }
        Call it = calls.get(k);
        int[] all = {it.from, it.latest, it.weight, it.timer};
        return what >= 0 && what < all.length ? all[what] : NONE;
    }

    private static int answering(List<Integer> wakes, int from) {
        for (int wake : wakes) {
            if (wake >= from) {
                return wake;
            }
        }
        return NONE;
    }

    private static int waits(List<Integer> wakes, List<Call> calls) {
        int sum = 0;
        for (Call it : calls) {
            sum += it.weight * (answering(wakes, it.from) - it.from);
        }
        return sum;
    }

    private int energy(List<Integer> wakes) {
        int sum = 0;
        for (int k = 0; k < wakes.size(); k++) {
            sum += k == 0 ? price : Math.min(price, stay * (wakes.get(k) - wakes.get(k - 1)));
        }
        return sum;
    }

    /** Tick by tick, as one who watches the machine would count. */
    private int liveEnergy(List<Integer> wakes) {
        int sum = 0;
        int last = NONE;
        for (int tick = 0; tick <= length; tick++) {
            boolean awake = last != NONE && stay * (tick - last) <= price;
            if (awake) {
                sum += stay;
            }
            if (wakes.contains(tick)) {
                sum += awake ? 0 : price;
                last = tick;
            }
        }
        return sum;
    }

    private static boolean kept(List<Integer> wakes, List<Call> calls) {
        for (Call it : calls) {
            int wake = answering(wakes, it.from);
            if (wake == NONE || wake > it.latest) {
                return false;
            }
        }
        return true;
    }

    private int value(List<Integer> wakes, List<Call> calls, boolean byEnergy) {
        return byEnergy ? energy(wakes) : price * wakes.size() + waits(wakes, calls);
    }

    private static int compareRows(List<Integer> a, List<Integer> b) {
        if (a.size() != b.size()) {
            return a.size() - b.size();
        }
        for (int k = 0; k < a.size(); k++) {
            if (!a.get(k).equals(b.get(k))) {
                return a.get(k) - b.get(k);
            }
        }
        return 0;
    }

    List<Integer> best(List<Call> calls, boolean byEnergy) {
        return length <= 10 ? bestOfAll(calls, byEnergy) : bestByTails(calls, byEnergy);
    }

    private List<Integer> ticksOf(int set) {
        List<Integer> ticks = new ArrayList<>();
        for (int tick = 0; tick <= length; tick++) {
            if ((set >> tick & 1) == 1) {
                ticks.add(tick);
            }
        }
        return ticks;
    }

    private List<Integer> bestOfAll(List<Call> calls, boolean byEnergy) {
        List<Integer> best = null;
        int bestValue = 0;
        for (int set = 0; set < 1 << length + 1; set++) {
            List<Integer> wakes = ticksOf(set);
            if (kept(wakes, calls)) {
                int value = value(wakes, calls, byEnergy);
                if (best == null || value < bestValue || value == bestValue && compareRows(wakes, best) < 0) {
                    best = wakes;
                    bestValue = value;
                }
            }
        }
        return best;
    }

    /** The best row behind each wake, rows compared as a whole, wakes that answer nothing allowed. */
    private List<Integer> bestByTails(List<Call> calls, boolean byEnergy) {
        List<List<Integer>> tails = new ArrayList<>();
        int[] values = new int[length + 2];
        for (int k = 0; k < length + 2; k++) {
            tails.add(null);
        }
        for (int wake = length; wake >= -1; wake--) {
            final int at = wake;
            List<Call> left = calls.stream().filter(it -> it.from > at).toList();
            int due = left.stream().mapToInt(Call::latest).min().orElse(NONE);
            List<Integer> best = left.isEmpty() ? List.of() : null;
            int bestValue = 0;
            for (int next = wake + 1; next <= due; next++) {
                int step = price;
                if (byEnergy && wake >= 0) {
                    step = Math.min(price, stay * (next - wake));
                }
                if (!byEnergy) {
                    for (Call it : left) {
                        step += it.from <= next ? it.weight * (next - it.from) : 0;
                    }
                }
                List<Integer> row = new ArrayList<>(List.of(next));
                row.addAll(tails.get(next + 1));
                int value = step + values[next + 1];
                if (best == null || value < bestValue || value == bestValue && compareRows(row, best) < 0) {
                    best = row;
                    bestValue = value;
                }
            }
            tails.set(wake + 1, best);
            values[wake + 1] = bestValue;
        }
        return tails.get(0);
    }

    private List<Integer> fewest(List<Call> calls) {
        return length <= 10 ? fewestOfAll(calls) : fewestByDue(calls);
    }

    private List<Integer> fewestOfAll(List<Call> calls) {
        List<Integer> best = null;
        for (int set = 0; set < 1 << length + 1; set++) {
            if (best == null || Integer.bitCount(set) <= best.size()) {
                List<Integer> wakes = ticksOf(set);
                boolean better = best == null || wakes.size() < best.size() || compareRows(wakes, best) > 0;
                best = better && kept(wakes, calls) ? wakes : best;
            }
        }
        return best;
    }

    private static List<Integer> fewestByDue(List<Call> calls) {
        List<Integer> wakes = new ArrayList<>();
        List<Call> left = new ArrayList<>(calls);
        while (!left.isEmpty()) {
            int due = left.stream().mapToInt(Call::latest).min().getAsInt();
            wakes.add(due);
            left.removeIf(it -> it.from <= due);
        }
        return wakes;
    }

    private boolean wakesByRule(int by, List<Call> open, int tick) {
        int later = open.stream().mapToInt(it -> it.weight * (tick + 1 - it.from)).sum();
        return !open.isEmpty() && (by == 0 || open.stream().anyMatch(it -> it.latest == tick)
                || by == 2 && later > price);
    }

    private List<Integer> live(int by) {
        List<Integer> wakes = new ArrayList<>();
        List<Call> open = new ArrayList<>();
        List<Call> calls = theCalls();
        for (int t = 0; t <= length; t++) {
            final int tick = t;
            calls.stream().filter(it -> it.from == tick).forEach(open::add);
            if (wakesByRule(by, open, tick)) {
                wakes.add(tick);
                open.clear();
            }
        }
        return wakes;
    }

    private List<Integer> plan(int plan) {
        if (!made.containsKey(plan)) {
            made.put(plan, newPlan(plan));
        }
        return made.get(plan);
    }

    private List<Integer> newPlan(int plan) {
        return switch (plan) {
            case 0 -> fewest(theCalls());
            case 1, 2 -> best(theCalls(), plan == 2);
            case 3, 4, 5 -> live(plan - 3);
            case ROUND -> newRound();
            default -> null;
        };
    }

    private List<Integer> planAsked(int plan) {
        return plan == ROUND ? null : plan(plan);
    }

    int wakes(int plan) {
        List<Integer> made = planAsked(plan);
        return made == null ? NONE : made.size();
    }

    int wake(int plan, int k) {
        List<Integer> made = planAsked(plan);
        return made == null || k < 0 || k >= made.size() ? NONE : made.get(k);
    }

    int price(int plan, int what) {
        List<Integer> made = planAsked(plan);
        if (made == null || what < 0 || what > 5) {
            return NONE;
        }
        List<Call> calls = theCalls();
        if (what == 4) {
            int most = 0;
            for (int wake : made) {
                most = Math.max(most, (int) calls.stream().filter(it -> answering(made, it.from) == wake).count());
            }
            return most;
        }
        return switch (what) {
            case 0 -> value(made, calls, false);
            case 1 -> waits(made, calls);
            case 2 -> energy(made);
            case 3 -> liveEnergy(made);
            default -> calls.stream().mapToInt(it -> answering(made, it.from) - it.from).max().orElse(0);
        };
    }

    int proof(int k) {
        List<Integer> made = plan(0);
        List<Call> calls = theCalls();
        for (int c = 0; k >= 0 && k < made.size() && c < calls.size(); c++) {
            if (answering(made, calls.get(c).from) == made.get(k) && calls.get(c).latest == made.get(k)) {
                return c;
            }
        }
        return NONE;
    }

    int answer(int plan, int call) {
        List<Integer> made = planAsked(plan);
        List<Call> calls = theCalls();
        return made == null || call < 0 || call >= calls.size() ? NONE : answering(made, calls.get(call).from);
    }

    // ---- by hand

    private void come() {
        for (Call it : theCalls()) {
            if (it.from == now) {
                came.add(it);
                answeredAt.add(NONE);
            }
        }
    }

    private List<Call> open() {
        List<Call> open = new ArrayList<>();
        for (int k = 0; k < came.size(); k++) {
            if (answeredAt.get(k) == NONE) {
                open.add(came.get(k));
            }
        }
        return open;
    }

    private void awake() {
        handWakes.add(now);
        answeredAt.replaceAll(at -> at == NONE ? now : at);
    }

    boolean rule(int other) {
        if (other < 0 || other > 2 || other == rule) {
            return false;
        }
        rule = other;
        return true;
    }

    int go(int n) {
        if (n < 1 || n > 300 || now > length) {
            return NONE;
        }
        int woke = 0;
        for (int k = 0; k < n && now <= length; k++) {
            if (wakesByRule(rule, open(), now)) {
                awake();
                woke++;
            }
            now++;
            come();
        }
        return woke;
    }

    int ring(int kind) {
        if (!has(kind) || now > length || rung == 100) {
            return NONE;
        }
        rung++;
        Call it = new Call(now, Math.min(length, now + slack(kind)), weight(kind), NONE);
        came.add(it);
        answeredAt.add(handWakes.contains(now) ? now : NONE);
        return it.latest;
    }

    int now() {
        int open = open().size();
        if (open == 0) {
            return NONE;
        }
        awake();
        return open;
    }

    int hand(int what) {
        if (what < 0 || what > 8) {
            return NONE;
        }
        List<Call> open = open();
        int cost = price * handWakes.size();
        for (int k = 0; k < came.size(); k++) {
            if (answeredAt.get(k) != NONE) {
                cost += came.get(k).weight * (answeredAt.get(k) - came.get(k).from);
            }
        }
        if (what >= 7) {
            List<Integer> after = best(came, false);
            return what == 7 ? value(after, came, false) : after.size();
        }
        int[] all = {came.size(), open.size(), handWakes.size(), cost,
            open.stream().mapToInt(it -> it.weight * (now - it.from)).sum(),
            open.stream().mapToInt(Call::latest).min().orElse(NONE),
            handWakes.isEmpty() ? NONE : handWakes.get(handWakes.size() - 1)};
        return all[what];
    }

    // ---- for ever

    private List<Timer> everyTimers() {
        return timers.stream().filter(timer -> timer.period > 0).toList();
    }

    private int hyper() {
        for (int h = 1; h <= 360 && !everyTimers().isEmpty(); h++) {
            final int hyper = h;
            if (everyTimers().stream().allMatch(timer -> hyper % timer.period == 0)) {
                return callsBy(hyper) > 400 ? NONE : hyper;
            }
        }
        return NONE;
    }

    private int callsBy(int hyper) {
        return everyTimers().stream().mapToInt(timer -> hyper / timer.period).sum();
    }

    private List<Integer> roundFor(int p, int hyper) {
        List<Call> calls = new ArrayList<>();
        for (Timer timer : everyTimers()) {
            for (int from = timer.tick % timer.period - 2 * timer.period; from <= 3 * hyper; from += timer.period) {
                if (from > p) {
                    calls.add(new Call(from, from + slack(timer.kind), 0, 0));
                }
            }
        }
        List<Integer> wakes = new ArrayList<>(List.of(p));
        while (true) {
            int due = calls.stream().mapToInt(Call::latest).min().getAsInt();
            if (due >= p + hyper) {
                return wakes;
            }
            wakes.add(due);
            calls.removeIf(it -> it.from <= due);
        }
    }

    private List<Integer> theRound() {
        return plan(ROUND);
    }

    private List<Integer> newRound() {
        int hyper = hyper();
        List<Integer> best = null;
        for (int p = 0; p < hyper; p++) {
            List<Integer> wakes = roundFor(p, hyper);
            if (best == null || wakes.size() < best.size()) {
                best = wakes;
            }
        }
        return best;
    }

    int round(int what) {
        List<Integer> made = theRound();
        if (made == null || what < 0 || what > 3) {
            return NONE;
        }
        return new int[] {hyper(), callsBy(hyper()), made.size(), made.get(0)}[what];
    }

    int roundAt(int k) {
        List<Integer> made = theRound();
        return made == null || k < 0 || k >= made.size() ? NONE : made.get(k) % hyper();
    }

    // ---- what another slack would do

    int would(int kind, int slack, int what) {
        if (!has(kind) || slack < 0 || slack > 99 || what < 0 || what > 3) {
            return NONE;
        }
        Model other = new Model();
        other.kinds = new ArrayList<>(kinds);
        other.timers = timers;
        other.length = length;
        other.price = price;
        other.stay = stay;
        other.slacken(kind, slack);
        return switch (what) {
            case 0 -> fewestByDue(other.theCalls()).size();
            case 1 -> other.price(1, 0);
            case 2 -> other.price(2, 2);
            default -> other.round(2);
        };
    }

    int enough(int kind, int n) {
        for (int slack = 0; slack < 100 && has(kind); slack++) {
            if (would(kind, slack, 0) <= n) {
                return slack;
            }
        }
        return NONE;
    }
}

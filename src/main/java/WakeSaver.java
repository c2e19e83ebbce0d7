/**
 * Saves wakeups: calls of timers, each with a slack within which it may be answered, and the
 * wakes that answer them by several plans, by hand, and for ever. README.md tells how to use it.
 */
public final class WakeSaver {
    public static final int NONE = -1;

    private static final int KINDS_MOST = 8;
    private static final int TIMERS_MOST = 24;
    private static final int CALLS_MOST = 200;
    private static final int RUNG_MOST = 100;
    private static final int TAPE_MOST = 600;
    private static final int LETTERS_MOST = 6;
    private static final int DIGITS_MOST = 3;

    private static final int TICK_MOST = 300;
    private static final int PERIOD_MOST = 60;
    private static final int SLACK_MOST = 99;
    private static final int WEIGHT_MOST = 9;
    private static final int PRICE_MOST = 99;
    private static final int STAY_MOST = 20;
    private static final int HYPER_MOST = 360;
    private static final int ROUND_CALLS_MOST = 400;

    private static final int FEWEST = 0;
    private static final int CHEAPEST = 1;
    private static final int THRIFTIEST = 2;
    private static final int LIVE = 3;
    private static final int PLANS = 6;

    /** What would() tells of the round; its others are told of the plans of the same numbers. */
    private static final int OF_ROUND = 3;

    // Rule 1, between these, wakes for what all rules wake for: a LATEST that is there.
    private static final int AT_ONCE = 0;
    private static final int BY_WAITS = 2;

    /** More than any tick, slack or price, and far from overflow when it is added to. */
    private static final int HUGE = 1000000;

    private final Tape tape;
    private final Reader reader;
    private Setup setup;
    private Setup spare;
    private final Calls calls;
    private final Wakes[] plans;
    private final boolean[] planned;
    private final Planner planner;
    private final Hand byHand;
    private final Round forEver;
    private boolean roundKnown;
    private final Calls otherCalls;
    private final Wakes otherWakes;
    private final Round otherRound;

    public WakeSaver() {
        reader = new Reader();
        tape = reader.tape();
        setup = new Setup();
        spare = new Setup();
        calls = new Calls(CALLS_MOST);
        plans = new Wakes[PLANS];
        for (int plan = 0; plan < plans.length; plan++) {
            plans[plan] = new Wakes(CALLS_MOST);
        }
        planned = new boolean[PLANS];
        planner = new Planner();
        byHand = new Hand();
        forEver = new Round();
        otherCalls = new Calls(CALLS_MOST);
        otherWakes = new Wakes(CALLS_MOST);
        otherRound = new Round();
    }

    // ---- the tape and its text

    public int feed(int a, int b, int c, int d, int e) {
        if (tape.size() + 20 > TAPE_MOST) {
            return NONE;
        }
        tape.addNumber(a);
        tape.addNumber(b);
        tape.addNumber(c);
        tape.addNumber(d);
        tape.addNumber(e);
        return tape.size();
    }

    public int end(int n) {
        if (n < 0 || n > tape.size()) {
            return NONE;
        }
        tape.cut(n);
        return n;
    }

    public int text() {
        boolean good = reader.read(spare);
        tape.cut(0);
        if (!good) {
            return NONE;
        }
        Setup was = setup;
        setup = spare;
        spare = was;
        calls.gather(setup);
        otherCalls.gather(setup);
        takeClasses();
        byHand.begin(calls);
        return setup.timers();
    }

    public int fault(int what) {
        switch (what) {
            case 0: return reader.latestFault();
            case 1: return reader.faultPlace();
            default: return NONE;
        }
    }

    public int count(int what) {
        switch (what) {
            case 0: return setup.kinds();
            case 1: return setup.timers();
            case 2: return calls.size();
            case 3: return setup.length();
            case 4: return setup.wakePrice();
            case 5: return setup.stay();
            case 6: return byHand.tick();
            case 7: return byHand.ruleNow();
            case 8: return tape.size();
            default: return NONE;
        }
    }

    // ---- classes

    public int kind(int kind, int what) {
        if (!setup.hasKind(kind)) {
            return NONE;
        }
        switch (what) {
            case 0: return setup.parentOf(kind);
            case 1: return setup.slackOf(kind);
            case 2: return setup.weightOf(kind);
            case 3: return setup.ownSlack(kind);
            case 4: return setup.ownWeight(kind);
            case 5: return setup.timersOf(kind);
            case 6: return setup.heirsOf(kind);
            default: return NONE;
        }
    }

    public boolean slacken(int kind, int slack) {
        if (!setup.hasKind(kind) || slack < NONE || slack > SLACK_MOST
                || slack == setup.ownSlack(kind)) {
            return false;
        }
        setup.setSlack(kind, slack);
        takeClasses();
        return true;
    }

    // ---- all that is planned

    public int call(int k, int what) {
        if (!calls.has(k)) {
            return NONE;
        }
        switch (what) {
            case 0: return calls.fromOf(k);
            case 1: return calls.latestOf(k);
            case 2: return calls.weightOf(k);
            case 3: return calls.timerOf(k);
            default: return NONE;
        }
    }

    public int wakes(int plan) {
        Wakes made = planOf(plan);
        return made == null ? NONE : made.size();
    }

    public int wake(int plan, int k) {
        Wakes made = planOf(plan);
        return made == null ? NONE : made.tickAt(k);
    }

    public int price(int plan, int what) {
        Wakes made = planOf(plan);
        if (made == null) {
            return NONE;
        }
        switch (what) {
            case 0: return made.costFor(calls, setup.wakePrice());
            case 1: return made.waitsOf(calls);
            case 2: return made.energy(setup.wakePrice(), setup.stay());
            case 3: return made.liveEnergy(setup.wakePrice(), setup.stay(), setup.length());
            case 4: return made.mostAnswered(calls);
            case 5: return made.longestWait(calls);
            default: return NONE;
        }
    }

    public int proof(int k) {
        Wakes made = planOf(FEWEST);
        if (made == null || !made.has(k)) {
            return NONE;
        }
        return calls.firstDueAt(made.tickAt(k), made.tickAt(k - 1));
    }

    public int answer(int plan, int call) {
        Wakes made = planOf(plan);
        if (made == null || !calls.has(call)) {
            return NONE;
        }
        return made.firstFrom(calls.fromOf(call));
    }

    // ---- by hand

    public boolean rule(int rule) {
        if (rule < AT_ONCE || rule > BY_WAITS || rule == byHand.ruleNow()) {
            return false;
        }
        byHand.setRule(rule);
        return true;
    }

    public int go(int n) {
        if (n < 1 || n > TICK_MOST || handEnded()) {
            return NONE;
        }
        int woke = 0;
        for (int k = 0; k < n && !handEnded(); k++) {
            if (byHand.passTick(calls, setup.wakePrice())) {
                woke++;
            }
        }
        return woke;
    }

    public int ring(int kind) {
        if (!setup.hasKind(kind) || handEnded() || byHand.rungCalls() >= RUNG_MOST) {
            return NONE;
        }
        int latest = Math.min(byHand.tick() + setup.slackOf(kind), setup.length());
        byHand.addRung(latest, setup.weightOf(kind));
        return latest;
    }

    public int now() {
        int answered = byHand.openCalls();
        if (answered == 0) {
            return NONE;
        }
        byHand.wakeHere();
        return answered;
    }

    public int hand(int what) {
        switch (what) {
            case 0: return byHand.callsCame();
            case 1: return byHand.openCalls();
            case 2: return byHand.wakeups();
            case 3: return byHand.costSoFar(setup.wakePrice());
            case 4: return byHand.openWaits();
            case 5: return byHand.openLatest();
            case 6: return byHand.latestWake();
            case 7: return byHand.costOf(byHand.hindsight(planner, setup), setup.wakePrice());
            case 8: return byHand.hindsight(planner, setup).size();
            default: return NONE;
        }
    }

    // ---- for ever

    public int round(int what) {
        Round made = roundMade();
        if (!made.exists()) {
            return NONE;
        }
        switch (what) {
            case 0: return made.hyper();
            case 1: return made.callsByHyper();
            case 2: return made.size();
            case 3: return made.start();
            default: return NONE;
        }
    }

    public int roundAt(int k) {
        return roundMade().tickAt(k);
    }

    // ---- what another slack would do

    public int would(int kind, int slack, int what) {
        if (!setup.hasKind(kind) || slack < 0 || slack > SLACK_MOST || what < 0 || what > OF_ROUND) {
            return NONE;
        }
        return supposed(kind, slack, what);
    }

    public int enough(int kind, int n) {
        if (!setup.hasKind(kind)) {
            return NONE;
        }
        // More slack never asks for more wakes, so the least slack can be found by halving.
        int least = 0;
        int most = SLACK_MOST + 1;
        for (int k = 0; k <= SLACK_MOST && least < most; k++) {
            int middle = (least + most) / 2;
            if (supposed(kind, middle, FEWEST) <= n) {
                most = middle;
            } else {
                least = middle + 1;
            }
        }
        return least > SLACK_MOST ? NONE : least;
    }

    // ---- what the public calls share

    /** The classes tell something else: what was planned by them holds no more. */
    private void takeClasses() {
        calls.layOut(setup);
        for (int plan = 0; plan < planned.length; plan++) {
            planned[plan] = false;
        }
        roundKnown = false;
    }

    /** A plan, made when it is first asked for, or null if there is none such. */
    private Wakes planOf(int plan) {
        if (plan < 0 || plan >= plans.length || plan >= planned.length) {
            return null;
        }
        Wakes made = plans[plan];
        if (made != null && !planned[plan]) {
            planner.make(plan, calls, setup, made);
            planned[plan] = true;
        }
        return made;
    }

    private Round roundMade() {
        if (!roundKnown) {
            forEver.make(setup);
            roundKnown = true;
        }
        return forEver;
    }

    /** What would() asks for, if there are such a class, slack and what. */
    private int supposed(int kind, int slack, int what) {
        int own = setup.ownSlack(kind);
        setup.setSlack(kind, slack);
        if (what == OF_ROUND) {
            otherRound.make(setup);
        } else {
            otherCalls.layOut(setup);
            planner.make(what, otherCalls, setup, otherWakes);
        }
        setup.setSlack(kind, own);
        switch (what) {
            case FEWEST: return otherWakes.size();
            case CHEAPEST: return otherWakes.costFor(otherCalls, setup.wakePrice());
            case THRIFTIEST: return otherWakes.energy(setup.wakePrice(), setup.stay());
            default: return otherRound.exists() ? otherRound.size() : NONE;
        }
    }

    private boolean handEnded() {
        return byHand.tick() > setup.length();
    }

    /** The bytes that were fed, and the token that is read of them. */
    private static final class Tape {
        static final int END = 0;
        static final int BAD = 1;
        static final int BLANK = 2;
        static final int WORD = 3;
        static final int NUMBER = 4;
        static final int MARK = 5;

        private final byte[] bytes = new byte[TAPE_MOST];
        private int size;
        private int start;
        private int next;
        private int type;
        private int value;

        int size() {
            return size;
        }

        void addNumber(int number) {
            for (int shift = 24; shift >= 0; shift -= 8) {
                if (size < bytes.length) {
                    bytes[size] = (byte) (number >>> shift);
                    size++;
                }
            }
        }

        void cut(int n) {
            size = Math.max(0, Math.min(n, size));
        }

        void rewind() {
            next = 0;
            advance();
        }

        /** Reads the next token: as many bytes of one sort as there are, but a mark alone. */
        void advance() {
            while (next < size && sortAt(next) == BLANK) {
                next++;
            }
            start = next;
            type = sortAt(start);
            value = 0;
            if (type == WORD || type == NUMBER) {
                for (; next < size && sortAt(next) == type; next++) {
                    value = type == WORD ? value * 32 + (bytes[next] - 'a' + 1)
                            : value * 10 + (bytes[next] - '0');
                }
                int most = type == WORD ? LETTERS_MOST : DIGITS_MOST;
                if (next - start > most) {
                    type = BAD;
                }
            } else if (type != END) {
                next++;
            }
        }

        private int sortAt(int place) {
            if (place < 0 || place >= size || place >= bytes.length) {
                return END;
            }
            int sign = bytes[place];
            if (sign >= 'a' && sign <= 'z') {
                return WORD;
            }
            if (sign >= '0' && sign <= '9') {
                return NUMBER;
            }
            if (sign == ';') {
                return MARK;
            }
            return sign == ' ' || sign == 10 ? BLANK : BAD;
        }

        int type() {
            return type;
        }

        /** A number, or a word as five bits a letter (a is 1): unlike words are unlike so. */
        int value() {
            return value;
        }

        int start() {
            return start;
        }

        boolean reads(int word) {
            return type == WORD && value == word;
        }
    }

    /** Reads the tape as a text; the first fault ends it. */
    private static final class Reader {
        // The words of the text, as five bits a letter.
        private static final int CLASS = 3 << 20 | 12 << 15 | 1 << 10 | 19 << 5 | 19;
        private static final int OF = 15 << 5 | 6;
        private static final int SLACK = 19 << 20 | 12 << 15 | 1 << 10 | 3 << 5 | 11;
        private static final int WEIGHT = 23 << 25 | 5 << 20 | 9 << 15 | 7 << 10 | 8 << 5 | 20;
        private static final int ONCE = 15 << 15 | 14 << 10 | 3 << 5 | 5;
        private static final int EVERY = 5 << 20 | 22 << 15 | 5 << 10 | 18 << 5 | 25;
        private static final int LENGTH = 12 << 25 | 5 << 20 | 14 << 15 | 7 << 10 | 20 << 5 | 8;
        private static final int PRICE = 16 << 20 | 18 << 15 | 9 << 10 | 3 << 5 | 5;
        private static final int STAY = 19 << 15 | 20 << 10 | 1 << 5 | 25;

        private static final int UNFIT = 1;
        private static final int NAMED_WRONG = 2;
        private static final int OUT_OF_RANGE = 3;
        private static final int TOO_MANY = 4;
        private static final int TOO_MANY_CALLS = 5;

        private final Tape tape = new Tape();
        private int fault;
        private int place = NONE;

        Tape tape() {
            return tape;
        }

        int latestFault() {
            return fault;
        }

        int faultPlace() {
            return place;
        }

        boolean read(Setup into) {
            fault = 0;
            place = NONE;
            into.clear();
            tape.rewind();
            for (int k = 0; k < TAPE_MOST && tape.type() != Tape.END; k++) {
                if (!line(into)) {
                    return false;
                }
            }
            return into.callsInAll() <= CALLS_MOST || fails(TOO_MANY_CALLS);
        }

        private boolean fails(int why) {
            fault = why;
            place = tape.start();
            return false;
        }

        private boolean line(Setup into) {
            int word = tape.type() == Tape.WORD ? tape.value() : NONE;
            boolean good;
            switch (word) {
                case CLASS: good = classLine(into); break;
                case ONCE: good = timerLine(into, false); break;
                case EVERY: good = timerLine(into, true); break;
                case LENGTH:
                case PRICE:
                case STAY: good = settingLine(into, word); break;
                default: return fails(UNFIT);
            }
            return good && closes();
        }

        private boolean closes() {
            if (tape.type() != Tape.MARK) {
                return fails(UNFIT);
            }
            tape.advance();
            return true;
        }

        private boolean classLine(Setup into) {
            if (into.kinds() >= KINDS_MOST) {
                return fails(TOO_MANY);
            }
            tape.advance();
            if (!atName()) {
                return fails(UNFIT);
            }
            int name = tape.value();
            if (into.kindNamed(name) != NONE) {
                return fails(NAMED_WRONG);
            }
            tape.advance();
            int parent = NONE;
            if (tape.reads(OF)) {
                parent = takeKind(into);
            }
            int slack = NONE;
            if (tape.reads(SLACK)) {
                tape.advance();
                slack = takeNumber(0, SLACK_MOST);
            }
            int weight = NONE;
            if (tape.reads(WEIGHT)) {
                tape.advance();
                weight = takeNumber(0, WEIGHT_MOST);
            }
            if (fault != 0) {
                return false;
            }
            into.addKind(name, parent, slack, weight);
            return true;
        }

        private boolean timerLine(Setup into, boolean again) {
            if (into.timers() >= TIMERS_MOST) {
                return fails(TOO_MANY);
            }
            int kind = takeKind(into);
            int period = again ? takeNumber(1, PERIOD_MOST) : 0;
            int tick = takeNumber(0, TICK_MOST);
            if (fault != 0) {
                return false;
            }
            into.addTimer(kind, period, tick);
            return true;
        }

        private boolean settingLine(Setup into, int word) {
            tape.advance();
            if (word == LENGTH) {
                into.setLength(takeNumber(1, TICK_MOST));
            } else if (word == PRICE) {
                into.setPrice(takeNumber(1, PRICE_MOST));
            } else {
                into.setStay(takeNumber(0, STAY_MOST));
            }
            return fault == 0;
        }

        /** Behind a word: the class whose name comes; NONE with a fault. */
        private int takeKind(Setup into) {
            tape.advance();
            if (!atName()) {
                fails(UNFIT);
                return NONE;
            }
            int kind = into.kindNamed(tape.value());
            if (kind == NONE) {
                fails(NAMED_WRONG);
                return NONE;
            }
            tape.advance();
            return kind;
        }

        /** The number that comes; NONE with a fault, or behind one. */
        private int takeNumber(int least, int most) {
            if (fault != 0) {
                return NONE;
            }
            int number = tape.value();
            if (tape.type() != Tape.NUMBER) {
                fails(UNFIT);
                return NONE;
            }
            if (number < least || number > most) {
                fails(OUT_OF_RANGE);
                return NONE;
            }
            tape.advance();
            return number;
        }

        private boolean atName() {
            if (tape.type() != Tape.WORD) {
                return false;
            }
            switch (tape.value()) {
                case CLASS:
                case OF:
                case SLACK:
                case WEIGHT:
                case ONCE:
                case EVERY:
                case LENGTH:
                case PRICE:
                case STAY: return false;
                default: return true;
            }
        }
    }

    /** What a text tells: classes, timers, length, price and stay. */
    private static final class Setup {
        private final int[] names = new int[KINDS_MOST];
        private final int[] parents = new int[KINDS_MOST];
        private final int[] slacks = new int[KINDS_MOST];
        private final int[] weights = new int[KINDS_MOST];
        private int kinds;
        private final int[] timerKinds = new int[TIMERS_MOST];
        private final int[] periods = new int[TIMERS_MOST];
        private final int[] ticks = new int[TIMERS_MOST];
        private int timers;
        private int length;
        private int price;
        private int stay;

        Setup() {
            clear();
        }

        void clear() {
            kinds = 0;
            timers = 0;
            length = 60;
            price = 10;
            stay = 1;
        }

        int kinds() {
            return kinds;
        }

        int timers() {
            return timers;
        }

        int length() {
            return length;
        }

        int wakePrice() {
            return price;
        }

        int stay() {
            return stay;
        }

        void setLength(int ticksInAll) {
            length = ticksInAll;
        }

        void setPrice(int ofWake) {
            price = ofWake;
        }

        void setStay(int ofTick) {
            stay = ofTick;
        }

        void addKind(int name, int parent, int slack, int weight) {
            if (kinds < KINDS_MOST) {
                names[kinds] = name;
                parents[kinds] = parent;
                slacks[kinds] = slack;
                weights[kinds] = weight;
                kinds++;
            }
        }

        /** A period of 0 stands for a timer that calls once. */
        void addTimer(int kind, int period, int tick) {
            if (timers < TIMERS_MOST) {
                timerKinds[timers] = kind;
                periods[timers] = period;
                ticks[timers] = tick;
                timers++;
            }
        }

        boolean hasKind(int kind) {
            return kind >= 0 && kind < kinds;
        }

        private boolean hasTimer(int timer) {
            return timer >= 0 && timer < timers;
        }

        int kindNamed(int name) {
            for (int kind = 0; kind < kinds; kind++) {
                if (names[kind] == name) {
                    return kind;
                }
            }
            return NONE;
        }

        int parentOf(int kind) {
            return hasKind(kind) ? parents[kind] : NONE;
        }

        int ownSlack(int kind) {
            return hasKind(kind) ? slacks[kind] : NONE;
        }

        int ownWeight(int kind) {
            return hasKind(kind) ? weights[kind] : NONE;
        }

        void setSlack(int kind, int slack) {
            if (hasKind(kind)) {
                slacks[kind] = slack;
            }
        }

        /** The class whose own slack is the slack of this one, or NONE. */
        private int slackGiver(int kind) {
            int at = kind;
            for (int k = 0; k < KINDS_MOST && hasKind(at); k++) {
                if (slacks[at] != NONE) {
                    return at;
                }
                at = parents[at];
            }
            return NONE;
        }

        int slackOf(int kind) {
            int giver = slackGiver(kind);
            return giver == NONE ? 0 : ownSlack(giver);
        }

        int weightOf(int kind) {
            int at = kind;
            for (int k = 0; k < KINDS_MOST && hasKind(at); k++) {
                if (weights[at] != NONE) {
                    return weights[at];
                }
                at = parents[at];
            }
            return 1;
        }

        int timersOf(int kind) {
            int found = 0;
            for (int timer = 0; timer < timers; timer++) {
                if (timerKinds[timer] == kind) {
                    found++;
                }
            }
            return found;
        }

        /** The classes that have their slack of this one, as bits; none without a slack of its own. */
        int heirsOf(int kind) {
            int bits = 0;
            for (int heir = 0; heir < kinds; heir++) {
                if (slackGiver(heir) == kind) {
                    bits |= 1 << heir;
                }
            }
            return bits;
        }

        int kindOfTimer(int timer) {
            return hasTimer(timer) ? timerKinds[timer] : NONE;
        }

        /** 0 for a timer that calls once. */
        int periodOf(int timer) {
            return hasTimer(timer) ? periods[timer] : 0;
        }

        int tickOf(int timer) {
            return hasTimer(timer) ? ticks[timer] : NONE;
        }

        boolean callsAt(int timer, int tick) {
            int behind = tick - tickOf(timer);
            int period = periodOf(timer);
            return behind == 0 || behind > 0 && period > 0 && behind % period == 0;
        }

        int callsInAll() {
            int found = 0;
            for (int timer = 0; timer < timers; timer++) {
                int room = length - ticks[timer];
                if (room >= 0) {
                    found += periods[timer] > 0 ? 1 + room / periods[timer] : 1;
                }
            }
            return found;
        }
    }

    /** A row of calls, by FROM. */
    private static final class Calls {
        private final int[] froms;
        private final int[] latests;
        private final int[] weights;
        private final int[] timers;
        private int size;

        Calls(int most) {
            int room = Math.max(most, 0);
            froms = new int[room];
            latests = new int[room];
            weights = new int[room];
            timers = new int[room];
        }

        void clear() {
            size = 0;
        }

        int size() {
            return size;
        }

        boolean has(int k) {
            return k >= 0 && k < size;
        }

        int fromOf(int k) {
            return has(k) ? froms[k] : NONE;
        }

        int latestOf(int k) {
            return has(k) ? latests[k] : NONE;
        }

        int weightOf(int k) {
            return has(k) ? weights[k] : NONE;
        }

        int timerOf(int k) {
            return has(k) ? timers[k] : NONE;
        }

        void add(int from, int latest, int weight, int timer) {
            if (size < froms.length) {
                froms[size] = from;
                latests[size] = latest;
                weights[size] = weight;
                timers[size] = timer;
                size++;
            }
        }

        /** Takes the calls of all timers; LATEST and WEIGHT are still to be laid out. */
        void gather(Setup setup) {
            size = 0;
            for (int tick = 0; tick <= setup.length(); tick++) {
                for (int timer = 0; timer < setup.timers(); timer++) {
                    if (setup.callsAt(timer, tick)) {
                        add(tick, tick, 1, timer);
                    }
                }
            }
        }

        /** LATEST and WEIGHT by the classes as they are. */
        void layOut(Setup setup) {
            for (int k = 0; k < size; k++) {
                int kind = setup.kindOfTimer(timers[k]);
                latests[k] = Math.min(froms[k] + setup.slackOf(kind), setup.length());
                weights[k] = setup.weightOf(kind);
            }
        }

        /** The first call with FROM behind a wake and with this LATEST. */
        int firstDueAt(int latest, int wake) {
            for (int k = 0; k < size; k++) {
                if (froms[k] > wake && latests[k] == latest) {
                    return k;
                }
            }
            return NONE;
        }

        /** All waits of the calls first to end less 1, were they answered at this tick. */
        int waitsAt(int tick, int first, int end) {
            int waits = 0;
            for (int k = Math.max(first, 0); k < end && k < size; k++) {
                waits += weights[k] * (tick - froms[k]);
            }
            return waits;
        }

        /** The least LATEST of the calls first to end less 1, or NONE. */
        int leastLatest(int first, int end) {
            int least = NONE;
            for (int k = Math.max(first, 0); k < end && k < size; k++) {
                if (least == NONE || latests[k] < least) {
                    least = latests[k];
                }
            }
            return least;
        }

        /** Whether a rule wakes at this tick, if the calls first to end less 1 are not answered. */
        boolean wantWake(int rule, int tick, int price, int first, int end) {
            if (first >= end) {
                return false;
            }
            if (rule == AT_ONCE || leastLatest(first, end) == tick) {
                return true;
            }
            return rule == BY_WAITS && waitsAt(tick + 1, first, end) > price;
        }
    }

    /** Wakes that keep all calls, the first one first. */
    private static final class Wakes {
        private final int[] ticks;
        private int size;

        Wakes(int most) {
            ticks = new int[Math.max(most, 0)];
        }

        void clear() {
            size = 0;
        }

        void add(int tick) {
            if (size < ticks.length) {
                ticks[size] = tick;
                size++;
            }
        }

        int size() {
            return size;
        }

        boolean has(int k) {
            return k >= 0 && k < size;
        }

        int tickAt(int k) {
            return has(k) ? ticks[k] : NONE;
        }

        /** The first wake at a tick or behind it, or NONE. */
        int firstFrom(int tick) {
            int least = 0;
            int most = size;
            for (int k = 0; k < ticks.length && least < most; k++) {
                int middle = (least + most) / 2;
                if (ticks[middle] >= tick) {
                    most = middle;
                } else {
                    least = middle + 1;
                }
            }
            return least < size ? ticks[least] : NONE;
        }

        int costFor(Calls calls, int price) {
            return price * size + waitsOf(calls);
        }

        int waitsOf(Calls calls) {
            int waits = 0;
            for (int k = 0; k < calls.size(); k++) {
                waits += calls.weightOf(k) * waitOf(calls, k);
            }
            return waits;
        }

        private int waitOf(Calls calls, int k) {
            int from = calls.fromOf(k);
            return Math.max(firstFrom(from) - from, 0);
        }

        int longestWait(Calls calls) {
            int longest = 0;
            for (int k = 0; k < calls.size(); k++) {
                longest = Math.max(longest, waitOf(calls, k));
            }
            return longest;
        }

        int mostAnswered(Calls calls) {
            int most = 0;
            int answered = 0;
            int wake = NONE;
            for (int k = 0; k < calls.size(); k++) {
                int by = firstFrom(calls.fromOf(k));
                answered = by == wake ? answered + 1 : 1;
                wake = by;
                most = Math.max(most, answered);
            }
            return most;
        }

        int energy(int price, int stay) {
            int energy = size > 0 ? price : 0;
            for (int k = 1; k < size; k++) {
                energy += Math.min(price, stay * (ticks[k] - ticks[k - 1]));
            }
            return energy;
        }

        int liveEnergy(int price, int stay, int length) {
            if (size == 0) {
                return 0;
            }
            // Without a price of staying it never sleeps, and that costs nothing.
            int awake = stay > 0 ? price / stay : HUGE;
            int energy = price;
            for (int k = 1; k < size; k++) {
                int far = ticks[k] - ticks[k - 1];
                energy += far <= awake ? stay * far : stay * awake + price;
            }
            return energy + stay * Math.min(awake, length - tickAt(size - 1));
        }
    }

    /** Makes the plans. */
    private static final class Planner {
        // By the tick of a wake and 1 (0: no wake yet): what the wakes behind it cost, how many
        // they are, and the first of them.
        private final int[] costs = new int[TICK_MOST + 2];
        private final int[] wakesLeft = new int[TICK_MOST + 2];
        private final int[] nexts = new int[TICK_MOST + 2];

        void make(int plan, Calls calls, Setup setup, Wakes into) {
            into.clear();
            switch (plan) {
                case FEWEST:
                    makeFewest(calls, into);
                    break;
                case CHEAPEST:
                case THRIFTIEST:
                    solve(calls, setup, plan == THRIFTIEST);
                    follow(into);
                    break;
                default:
                    makeLive(plan - LIVE, calls, setup, into);
                    break;
            }
        }

        private void makeFewest(Calls calls, Wakes into) {
            if (calls.size() == 0) {
                return;
            }
            int due = calls.latestOf(0);
            for (int k = 1; k < calls.size(); k++) {
                int latest = calls.latestOf(k);
                if (calls.fromOf(k) > due) {
                    into.add(due);
                    due = latest;
                } else {
                    due = Math.min(due, latest);
                }
            }
            into.add(due);
        }

        private void makeLive(int rule, Calls calls, Setup setup, Wakes into) {
            int open = 0;
            int came = 0;
            for (int tick = 0; tick <= setup.length(); tick++) {
                while (came < calls.size() && calls.fromOf(came) <= tick) {
                    came++;
                }
                if (calls.wantWake(rule, tick, setup.wakePrice(), open, came)) {
                    into.add(tick);
                    open = came;
                }
            }
        }

        /** From the last tick back: what is best behind a wake depends on that wake alone. */
        private void solve(Calls calls, Setup setup, boolean byEnergy) {
            int open = calls.size();
            int due = HUGE;
            for (int tick = Math.min(setup.length(), TICK_MOST); tick >= NONE; tick--) {
                while (open > 0 && calls.fromOf(open - 1) > tick) {
                    open--;
                    due = Math.min(due, calls.latestOf(open));
                }
                int price = setup.wakePrice();
                if (open == calls.size()) {
                    setBest(tick, 0, 0, NONE);
                } else if (byEnergy) {
                    solveEnergy(tick, calls.fromOf(open), due, price, setup.stay());
                } else {
                    solveCost(tick, calls, open, due, price);
                }
            }
        }

        private void setBest(int tick, int cost, int wakes, int next) {
            int at = tick + 1;
            if (at >= 0 && at < costs.length) {
                costs[at] = cost;
                wakesLeft[at] = wakes;
                nexts[at] = next;
            }
        }

        private void solveEnergy(int tick, int first, int due, int price, int stay) {
            setBest(tick, HUGE, HUGE, NONE);
            for (int next = first; next <= due && next <= TICK_MOST; next++) {
                int stayed = stay * (next - tick);
                // Nothing is ahead of the first wake: it can't have stayed awake.
                tryNext(tick, next, tick == NONE ? price : Math.min(price, stayed));
            }
        }

        private void solveCost(int tick, Calls calls, int open, int due, int price) {
            setBest(tick, HUGE, HUGE, NONE);
            int k = open;
            int weights = 0;
            int waits = 0;
            for (int next = calls.fromOf(open); next <= due && next <= TICK_MOST; next++) {
                waits += weights;
                for (; k < calls.size() && calls.fromOf(k) == next; k++) {
                    weights += calls.weightOf(k);
                }
                tryNext(tick, next, price + waits);
            }
        }

        /** Of like ones the first that is tried stays: nexts are tried from the least on. */
        private void tryNext(int tick, int next, int step) {
            int at = tick + 1;
            int then = next + 1;
            if (at < 0 || at >= costs.length || then < 0 || then >= costs.length) {
                return;
            }
            int cost = step + costs[then];
            int wakes = 1 + wakesLeft[then];
            if (cost < costs[at] || cost == costs[at] && wakes < wakesLeft[at]) {
                setBest(tick, cost, wakes, next);
            }
        }

        private void follow(Wakes into) {
            int at = 0;
            for (int k = 0; k < nexts.length && at >= 0 && at < nexts.length; k++) {
                int next = nexts[at];
                if (next == NONE) {
                    return;
                }
                into.add(next);
                at = next + 1;
            }
        }
    }

    /** What is done by hand, tick by tick. */
    private static final class Hand {
        private final Calls came = new Calls(CALLS_MOST + RUNG_MOST);
        private final Wakes hindsight = new Wakes(CALLS_MOST + RUNG_MOST);
        private boolean hindsightKnown;
        private int plannedCame;
        private int rung;
        // A wake answers all that is there, so the calls not answered are the last ones.
        private int open;
        private int wakeups;
        private int waits;
        private int last = NONE;
        private int tick;
        private int rule = BY_WAITS;

        void begin(Calls calls) {
            came.clear();
            hindsightKnown = false;
            plannedCame = 0;
            rung = 0;
            open = 0;
            wakeups = 0;
            waits = 0;
            last = NONE;
            tick = 0;
            rule = BY_WAITS;
            letCome(calls);
        }

        private void letCome(Calls calls) {
            for (; plannedCame < calls.size() && calls.fromOf(plannedCame) == tick; plannedCame++) {
                came.add(tick, calls.latestOf(plannedCame), calls.weightOf(plannedCame),
                        calls.timerOf(plannedCame));
                hindsightKnown = false;
            }
        }

        /** Wakes by rule, and goes on to the next tick: whether it woke. */
        boolean passTick(Calls calls, int price) {
            boolean woke = came.wantWake(rule, tick, price, open, came.size());
            if (woke) {
                wakeHere();
            }
            tick++;
            letCome(calls);
            return woke;
        }

        void wakeHere() {
            waits += openWaits();
            open = came.size();
            wakeups++;
            last = tick;
        }

        void addRung(int latest, int weight) {
            came.add(tick, latest, weight, NONE);
            rung++;
            hindsightKnown = false;
            if (last == tick) {
                open = came.size();
            }
        }

        void setRule(int other) {
            rule = other;
        }

        int ruleNow() {
            return rule;
        }

        int tick() {
            return tick;
        }

        int rungCalls() {
            return rung;
        }

        int callsCame() {
            return came.size();
        }

        int openCalls() {
            return came.size() - open;
        }

        int wakeups() {
            return wakeups;
        }

        int latestWake() {
            return last;
        }

        int costSoFar(int price) {
            return price * wakeups + waits;
        }

        int openWaits() {
            return came.waitsAt(tick, open, came.size());
        }

        int openLatest() {
            return came.leastLatest(open, came.size());
        }

        /** The cheapest wakes for all that came, as it was laid when it came. */
        Wakes hindsight(Planner planner, Setup setup) {
            if (!hindsightKnown) {
                planner.make(CHEAPEST, came, setup, hindsight);
                hindsightKnown = true;
            }
            return hindsight;
        }

        int costOf(Wakes wakes, int price) {
            return wakes.costFor(came, price);
        }
    }

    /** Wakes of the timers that call again and again, going round for ever. */
    private static final class Round {
        // By the tick, modulo the hyper: the least slack of the calls that come then, and how far
        // the least LATEST of all calls that come behind it is away.
        private final int[] slackAt = new int[HYPER_MOST];
        private final int[] reach = new int[HYPER_MOST];
        private int hyper;
        private int calls;
        private int size;
        private int start;

        boolean exists() {
            return size > 0;
        }

        int hyper() {
            return hyper;
        }

        int callsByHyper() {
            return calls;
        }

        int size() {
            return size;
        }

        int start() {
            return start;
        }

        void make(Setup setup) {
            size = 0;
            hyper = hyperOf(setup);
            calls = callsOf(setup);
            if (calls == 0 || calls > ROUND_CALLS_MOST) {
                return;
            }
            fillSlacks(setup);
            fillReach();
            choose();
        }

        /** The least number that all periods divide; 0 without periods, or if it is too great. */
        private static int hyperOf(Setup setup) {
            int least = 0;
            for (int timer = 0; timer < setup.timers(); timer++) {
                int period = setup.periodOf(timer);
                if (period > 0) {
                    least = least == 0 ? period : leastShared(least, period);
                    if (least == 0 || least > HYPER_MOST) {
                        return 0;
                    }
                }
            }
            return least;
        }

        private static int leastShared(int a, int b) {
            for (int many = 1; many <= b; many++) {
                if (b > 0 && a * many % b == 0) {
                    return a * many;
                }
            }
            return 0;
        }

        private int callsOf(Setup setup) {
            int found = 0;
            for (int timer = 0; timer < setup.timers(); timer++) {
                int period = setup.periodOf(timer);
                if (period > 0) {
                    found += hyper / period;
                }
            }
            return found;
        }

        private void fillSlacks(Setup setup) {
            for (int at = 0; at < hyper && at < slackAt.length; at++) {
                slackAt[at] = HUGE;
            }
            for (int timer = 0; timer < setup.timers(); timer++) {
                int period = setup.periodOf(timer);
                if (period > 0) {
                    int slack = setup.slackOf(setup.kindOfTimer(timer));
                    int first = setup.tickOf(timer) % period;
                    for (int at = Math.max(first, 0); at < hyper && at < slackAt.length; at += period) {
                        slackAt[at] = Math.min(slackAt[at], slack);
                    }
                }
            }
        }

        /** Backwards twice: by the second time what comes behind the end is known, too. */
        private void fillReach() {
            int ahead = HUGE;
            for (int lap = 0; lap < 2; lap++) {
                for (int at = Math.min(hyper, reach.length) - 1; at >= 0; at--) {
                    reach[at] = 1 + ahead;
                    ahead = Math.min(slackAt[at], reach[at]);
                }
            }
        }

        /**
         * Every round wakes for the call behind 0 whose LATEST is first, so a best one has a wake
         * no later than that; and from any wake of a best one on there are no more wakes.
         */
        private void choose() {
            for (int p = 0; p < hyper && p <= reach[0]; p++) {
                int wakes = wakesFrom(p);
                if (size == 0 || wakes < size) {
                    size = wakes;
                    start = p;
                }
            }
        }

        private int wakesFrom(int p) {
            int wakes = 1;
            int at = p;
            int gone = 0;
            for (int k = 0; k < hyper && at >= 0 && at < reach.length; k++) {
                gone += reach[at];
                if (gone >= hyper) {
                    break;
                }
                wakes++;
                at = (p + gone) % hyper;
            }
            return wakes;
        }

        /** The k-th wake from the start on, modulo the hyper, or NONE. */
        int tickAt(int k) {
            if (k < 0 || k >= size) {
                return NONE;
            }
            int at = start;
            for (int step = 0; step < k && hyper > 0 && at >= 0 && at < reach.length; step++) {
                at = (at + reach[at]) % hyper;
            }
            return at;
        }
    }
}

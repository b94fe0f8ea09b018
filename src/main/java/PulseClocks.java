/**
 * Pulse-coupled clocks: clocks that count to a period, fire, and by that move the clocks they are
 * linked with forward. What each call promises stands in the project's document.
 */
public final class PulseClocks {
    public static final int NONE = -1;

    private static final int MOST_CLOCKS = 10;
    private static final int FIRST_PERIOD = 40;
    private static final int LEAST_PERIOD = 10;
    private static final int MOST_PERIOD = 100;
    private static final int MOST_DRIFT = 9;
    private static final int MOST_RHYTHM = 99;
    private static final int MOST_OFFSET = 98;
    private static final int MOST_DELAY = 9;
    private static final int WINDOW = 0;
    private static final int STRENGTH = 1;
    private static final int KIND = 2;
    private static final int[] MOST_RESPONSE = {99, 32, 2};
    private static final int MOST_ABOUT = 6;
    private static final int MOST_TICKS = 99;
    private static final int MOST_LIMIT = 400;
    private static final int MOST_NOTES = 60;
    private static final int MOST_SAVED = 4;
    private static final int MOST_BYTES = 100;
    private static final int LAST_BYTE = 127;

    private final Network network;
    // Queries in thought run on these two, made once because a run's objects are counted.
    private final Network thought;
    private final Network ahead;
    private final Savings savings;
    private final Script script;

    public PulseClocks() {
        network = new Network();
        thought = new Network();
        ahead = new Network();
        savings = new Savings();
        script = new Script();
    }

    // ---- clocks and links

    public int add(int phase) throws IllegalArgumentException, IllegalStateException {
        requirePhase(phase);
        if (network.isFull()) {
            throw new IllegalStateException("there are 10 clocks");
        }
        savings.save(network);
        return network.addClock(phase);
    }

    public int setPhase(int clock, int phase)
            throws IndexOutOfBoundsException, IllegalArgumentException {
        requireClock(clock);
        requirePhase(phase);
        savings.save(network);
        return network.changePhase(clock, phase);
    }

    public int setDrift(int clock, int drift)
            throws IndexOutOfBoundsException, IllegalArgumentException {
        requireClock(clock);
        if (drift < -MOST_DRIFT || drift > MOST_DRIFT) {
            throw new IllegalArgumentException("drift is not -9 to 9");
        }
        savings.save(network);
        return network.changeDrift(clock, drift);
    }

    public int blink(int clock, int rhythm, int offset)
            throws IndexOutOfBoundsException, IllegalArgumentException {
        requireClock(clock);
        if (!isBlinking(rhythm, offset)) {
            throw new IllegalArgumentException("rhythm is not 1 to 99, or offset not 0 to 98");
        }
        savings.save(network);
        network.makeBlinker(clock, rhythm, offset);
        return network.blinkerCount();
    }

    public int mend(int clock) throws IndexOutOfBoundsException, IllegalStateException {
        requireClock(clock);
        if (network.isGood(clock)) {
            throw new IllegalStateException("the clock is good");
        }
        savings.save(network);
        network.makeGood(clock);
        return network.blinkerCount();
    }

    public int link(int one, int other, int delay)
            throws IndexOutOfBoundsException, IllegalArgumentException {
        requireClock(one);
        requireClock(other);
        if (one == other || !isDelay(delay)) {
            throw new IllegalArgumentException("both clocks are the same, or delay is not 0 to 9");
        }
        savings.save(network);
        return network.changeLink(one, other, delay);
    }

    public int unlink(int one, int other) throws IndexOutOfBoundsException, IllegalStateException {
        requireClock(one);
        requireClock(other);
        if (network.delayBetween(one, other) == NONE) {
            throw new IllegalStateException("there is no link between the clocks");
        }
        savings.save(network);
        network.changeLink(one, other, NONE);
        return network.linkCount();
    }

    public int setPeriod(int period) throws IllegalArgumentException {
        if (period < LEAST_PERIOD || period > MOST_PERIOD) {
            throw new IllegalArgumentException("period is not 10 to 100");
        }
        savings.save(network);
        return network.changePeriod(period);
    }

    public int setResponse(int what, int value) throws IllegalArgumentException {
        if (what < 0 || what >= MOST_RESPONSE.length || value < 0 || value > MOST_RESPONSE[what]) {
            throw new IllegalArgumentException("what or value is out of range");
        }
        savings.save(network);
        return network.changeResponse(what, value);
    }

    public int clocks() {
        return network.clockCount;
    }

    public int clock(int clock, int what)
            throws IndexOutOfBoundsException, IllegalArgumentException {
        requireClock(clock);
        if (what < 0 || what > MOST_ABOUT) {
            throw new IllegalArgumentException("what is not 0 to 6");
        }
        return network.about(clock, what);
    }

    public int linkOf(int one, int other) throws IndexOutOfBoundsException {
        requireClock(one);
        requireClock(other);
        return network.delayBetween(one, other);
    }

    public int distance(int one, int other) throws IndexOutOfBoundsException {
        requireClock(one);
        requireClock(other);
        return network.linksFromTo(one, other);
    }

    public int components() {
        return network.partsWithin(network.allClocks());
    }

    public boolean isNeeded(int clock) throws IndexOutOfBoundsException {
        requireClock(clock);
        int all = network.allClocks();
        return network.partsWithin(all & ~(1 << clock)) > network.partsWithin(all);
    }

    // ---- ticks

    public int tick(int n) throws IllegalArgumentException {
        if (!isTickNumber(n)) {
            throw new IllegalArgumentException("n is not 1 to 99");
        }
        savings.save(network);
        return network.passTicks(n);
    }

    public int now() {
        return network.time;
    }

    public int noted(int k, boolean tick) {
        int place = network.log.placeOf(k);
        if (place == NONE) {
            return NONE;
        }
        return tick ? network.log.tickOf[place] : network.log.clockOf[place];
    }

    public int fired() {
        return network.firedSet;
    }

    public int underWay() {
        return network.pulseCount();
    }

    // ---- groups

    public int groups() {
        return network.groupCount(MOST_CLOCKS);
    }

    public int group(int index, boolean phase) throws IndexOutOfBoundsException {
        int found = network.phaseOfGroup(index);
        if (found == NONE) {
            throw new IndexOutOfBoundsException("there is no such group");
        }
        return phase ? found : network.goodClocksAt(found);
    }

    public int groupOf(int clock) throws IndexOutOfBoundsException {
        requireClock(clock);
        return network.numberOfGroup(clock);
    }

    public int spread() {
        return network.spreadOfGood();
    }

    // ---- in thought

    public int ticksUntil(int groups, int limit) throws IllegalArgumentException {
        if (groups < 0 || groups > MOST_CLOCKS) {
            throw new IllegalArgumentException("groups is not 0 to 10");
        }
        requireLimit(limit);
        thought.copyFrom(network);
        return thought.passUntilGroups(groups, limit);
    }

    public int groupsAfter(int n) throws IllegalArgumentException {
        requireLimit(n);
        thought.copyFrom(network);
        thought.passTicks(n);
        return thought.groupCount(MOST_CLOCKS);
    }

    public int repeats(int limit, boolean first) throws IllegalArgumentException {
        requireLimit(limit);
        int length = lengthOfCycle(limit);
        if (length == NONE) {
            return NONE;
        }
        int start = startOfCycle(length, limit);
        return first || start == NONE ? start : length;
    }

    public int leastStrength(int limit) throws IllegalArgumentException {
        requireLimit(limit);
        for (int strength = 0; strength <= MOST_RESPONSE[STRENGTH]; strength++) {
            thought.copyFrom(network);
            thought.changeResponse(STRENGTH, strength);
            if (thought.passUntilGroups(1, limit) != NONE) {
                return strength;
            }
        }
        return NONE;
    }

    public int basin(int clock, int limit)
            throws IndexOutOfBoundsException, IllegalArgumentException {
        requireClock(clock);
        requireLimit(limit);
        int found = 0;
        for (int phase = 0; phase < network.period; phase++) {
            imaginePhase(clock, phase);
            if (thought.passUntilGroups(1, limit) != NONE) {
                found++;
            }
        }
        return found;
    }

    public int worstPhase(int clock, int limit)
            throws IndexOutOfBoundsException, IllegalArgumentException {
        requireClock(clock);
        requireLimit(limit);
        int worst = 0;
        int most = 0;
        for (int phase = 0; phase < network.period; phase++) {
            imaginePhase(clock, phase);
            int ticks = thought.passUntilGroups(1, limit);
            if (ticks == NONE) {
                return phase;
            }
            if (ticks > most) {
                most = ticks;
                worst = phase;
            }
        }
        return worst;
    }

    public int blamed(int limit) throws IllegalArgumentException {
        requireLimit(limit);
        for (int clock = 0; clock < network.clockCount; clock++) {
            if (!network.isGood(clock)) {
                thought.copyFrom(network);
                thought.makeGood(clock);
                if (thought.passUntilGroups(1, limit) != NONE) {
                    return clock;
                }
            }
        }
        return NONE;
    }

    public int firesIn(int clock, int limit)
            throws IndexOutOfBoundsException, IllegalArgumentException {
        requireClock(clock);
        requireLimit(limit);
        thought.copyFrom(network);
        for (int n = 1; n <= limit; n++) {
            thought.passTicks(1);
            if (thought.hasFired(clock)) {
                return n;
            }
        }
        return NONE;
    }

    // ---- texts, state

    public int append(int value) throws IllegalArgumentException, IllegalStateException {
        if (value < 0 || value > LAST_BYTE) {
            throw new IllegalArgumentException("value is not 0 to 127");
        }
        if (script.isFull()) {
            throw new IllegalStateException("the text has 100 bytes");
        }
        script.put(value);
        return script.length;
    }

    public int clearText() {
        int before = script.length;
        script.length = 0;
        return before;
    }

    public int execute() {
        if (!script.parse()) {
            return -10 - script.place;
        }
        thought.copyFrom(network);
        for (int command = 0; command < script.commandCount; command++) {
            if (!runInThought(command)) {
                return -1000 - command;
            }
        }
        savings.save(network);
        network.copyFrom(thought);
        return script.commandCount;
    }

    public int undo() throws IllegalStateException {
        if (savings.count == 0) {
            throw new IllegalStateException("no state is saved");
        }
        savings.restore(network);
        return savings.count;
    }

    public long digest() {
        long h = 1858;
        h = mix(h, network.period);
        h = mix(h, network.response[WINDOW]);
        h = mix(h, network.response[STRENGTH]);
        h = mix(h, network.response[KIND]);
        h = mix(h, network.time);
        h = mixClocks(h);
        h = mix(h, network.firedSet);
        h = mix(h, network.pulseCount());
        h = mixGroups(h);
        h = mix(h, network.spreadOfGood());
        h = mixNotes(h);
        h = mix(h, script.length);
        return mix(h, savings.count);
    }

    // ---- helpers of the face

    private void requireClock(int clock) {
        if (!network.hasClock(clock)) {
            throw new IndexOutOfBoundsException("there is no such clock");
        }
    }

    private void requirePhase(int phase) {
        if (!network.isPhase(phase)) {
            throw new IllegalArgumentException("phase is not 0 to P - 1");
        }
    }

    private static void requireLimit(int limit) {
        if (limit < 1 || limit > MOST_LIMIT) {
            throw new IllegalArgumentException("the number of ticks is not 1 to 400");
        }
    }

    private static boolean isBlinking(int rhythm, int offset) {
        return rhythm >= 1 && rhythm <= MOST_RHYTHM && offset >= 0 && offset <= MOST_OFFSET;
    }

    private static boolean isDelay(int delay) {
        return delay >= 0 && delay <= MOST_DELAY;
    }

    private static boolean isTickNumber(int n) {
        return n >= 1 && n <= MOST_TICKS;
    }

    private void imaginePhase(int clock, int phase) {
        thought.copyFrom(network);
        thought.changePhase(clock, phase);
    }

    /**
     * Alike situations are followed by alike ones, so the situations run into a cycle; if one
     * repeats itself up to limit, the situation after limit ticks lies on that cycle. So no row of
     * earlier situations has to be kept.
     */
    private int lengthOfCycle(int limit) {
        ahead.copyFrom(network);
        ahead.passTicks(limit);
        thought.copyFrom(ahead);
        for (int n = 1; n <= limit; n++) {
            thought.passTicks(1);
            if (thought.isAlike(ahead)) {
                return n;
            }
        }
        return NONE;
    }

    private int startOfCycle(int length, int limit) {
        thought.copyFrom(network);
        ahead.copyFrom(network);
        ahead.passTicks(length);
        for (int n = 0; n <= limit - length; n++) {
            if (thought.isAlike(ahead)) {
                return n;
            }
            thought.passTicks(1);
            ahead.passTicks(1);
        }
        return NONE;
    }

    /** Answers false, and leaves the network in thought alone, if the method would throw. */
    private boolean runInThought(int command) {
        int a = script.numberOf(command, 0);
        int b = script.numberOf(command, 1);
        int c = script.numberOf(command, 2);
        switch (script.letterOf(command)) {
            case 'a':
                return addInThought(a);
            case 'p':
                return setPhaseInThought(a, b);
            case 'l':
                return linkInThought(a, b, c);
            case 'b':
                return blinkInThought(a, b, c);
            case 't':
                if (!isTickNumber(a)) {
                    return false;
                }
                thought.passTicks(a);
                return true;
            default:
                return false;
        }
    }

    private boolean addInThought(int phase) {
        if (!thought.isPhase(phase) || thought.isFull()) {
            return false;
        }
        thought.addClock(phase);
        return true;
    }

    private boolean setPhaseInThought(int clock, int phase) {
        if (!thought.hasClock(clock) || !thought.isPhase(phase)) {
            return false;
        }
        thought.changePhase(clock, phase);
        return true;
    }

    private boolean linkInThought(int one, int other, int delay) {
        if (!thought.hasClock(one) || !thought.hasClock(other) || one == other || !isDelay(delay)) {
            return false;
        }
        thought.changeLink(one, other, delay);
        return true;
    }

    private boolean blinkInThought(int clock, int rhythm, int offset) {
        if (!thought.hasClock(clock) || !isBlinking(rhythm, offset)) {
            return false;
        }
        thought.makeBlinker(clock, rhythm, offset);
        return true;
    }

    private static long mix(long h, int value) {
        return 31 * h + value;
    }

    private long mixClocks(long before) {
        int count = network.clockCount;
        long h = mix(before, count);
        for (int clock = 0; clock < count; clock++) {
            for (int what = 0; what <= MOST_ABOUT; what++) {
                h = mix(h, network.about(clock, what));
            }
            for (int other = 0; other < count; other++) {
                h = mix(h, network.delayBetween(clock, other));
            }
        }
        return h;
    }

    private long mixGroups(long before) {
        long h = mix(before, network.groupCount(MOST_CLOCKS));
        for (int phase = 0; phase < network.period; phase++) {
            int members = network.goodClocksAt(phase);
            if (members != 0) {
                h = mix(h, phase);
                h = mix(h, members);
            }
        }
        return h;
    }

    private long mixNotes(long before) {
        long h = before;
        for (int k = 0; k < network.log.count; k++) {
            int place = network.log.placeOf(k);
            if (place != NONE) {
                h = mix(h, network.log.tickOf[place]);
                h = mix(h, network.log.clockOf[place]);
            }
        }
        return h;
    }

    /** The latest notes, in a ring. */
    private static final class Log {
        final int[] tickOf = new int[MOST_NOTES];
        final int[] clockOf = new int[MOST_NOTES];
        int next;
        int count;

        void note(int tick, int clock) {
            tickOf[next] = tick;
            clockOf[next] = clock;
            next = next + 1 < MOST_NOTES ? next + 1 : 0;
            if (count < MOST_NOTES) {
                count++;
            }
        }

        /** Where the note number k stands, 0 being the latest one; NONE if there is none. */
        int placeOf(int k) {
            if (k < 0 || k >= count) {
                return NONE;
            }
            int place = next - 1 - k;
            return place >= 0 ? place : place + MOST_NOTES;
        }

        void copyNotes(Log other) {
            System.arraycopy(other.tickOf, 0, tickOf, 0, MOST_NOTES);
            System.arraycopy(other.clockOf, 0, clockOf, 0, MOST_NOTES);
            next = other.next;
            count = other.count;
        }
    }

    /** All of the state but the text. Its methods are called with tested arguments only. */
    private static final class Network {
        // A power of two above the greatest delay: a mask then finds a slot for every tick counter.
        private static final int SLOTS = 16;

        int clockCount;
        int period = FIRST_PERIOD;
        final int[] response = {0, 4, 0};
        int time;
        int firedSet;
        final Log log = new Log();
        private final int[] phase = new int[MOST_CLOCKS];
        private final int[] drift = new int[MOST_CLOCKS];
        // 0 marks a good clock.
        private final int[] rhythm = new int[MOST_CLOCKS];
        private final int[] offset = new int[MOST_CLOCKS];
        // For each pair of clocks, in both directions; NONE without a link.
        private final int[] delay = new int[MOST_CLOCKS * MOST_CLOCKS];
        // For each slot of an arrival and each clock the set of the clocks whose pulse reaches it.
        private final int[] due = new int[SLOTS * MOST_CLOCKS];
        // The clocks of firedSet in the order in which they fired: each tick begins it anew, so it
        // is no part of the state.
        private final int[] order = new int[MOST_CLOCKS];
        private int orderCount;

        Network() {
            for (int pair = 0; pair < delay.length; pair++) {
                delay[pair] = NONE;
            }
        }

        void copyFrom(Network other) {
            clockCount = other.clockCount;
            period = other.period;
            System.arraycopy(other.response, 0, response, 0, response.length);
            time = other.time;
            firedSet = other.firedSet;
            log.copyNotes(other.log);
            System.arraycopy(other.phase, 0, phase, 0, phase.length);
            System.arraycopy(other.drift, 0, drift, 0, drift.length);
            System.arraycopy(other.rhythm, 0, rhythm, 0, rhythm.length);
            System.arraycopy(other.offset, 0, offset, 0, offset.length);
            System.arraycopy(other.delay, 0, delay, 0, delay.length);
            System.arraycopy(other.due, 0, due, 0, due.length);
        }

        // -- what there is

        boolean hasClock(int clock) {
            return clock >= 0 && clock < clockCount;
        }

        boolean isFull() {
            return clockCount >= MOST_CLOCKS;
        }

        boolean isPhase(int value) {
            return value >= 0 && value < period;
        }

        boolean isGood(int clock) {
            return rhythm[clock] == 0;
        }

        boolean hasFired(int clock) {
            return (firedSet & (1 << clock)) != 0;
        }

        int allClocks() {
            return (1 << clockCount) - 1;
        }

        int about(int clock, int what) {
            switch (what) {
                case 0:
                    return phase[clock];
                case 1:
                    return drift[clock];
                case 2:
                    return isGood(clock) ? 0 : 1;
                case 3:
                    return isGood(clock) ? NONE : rhythm[clock];
                case 4:
                    return isGood(clock) ? NONE : offset[clock];
                case 5:
                    return Integer.bitCount(neighboursOf(clock));
                default:
                    return pulsesTo(clock);
            }
        }

        int blinkerCount() {
            int found = 0;
            for (int clock = 0; clock < clockCount; clock++) {
                if (!isGood(clock)) {
                    found++;
                }
            }
            return found;
        }

        int pulsesTo(int clock) {
            int found = 0;
            for (int slot = 0; slot < SLOTS; slot++) {
                found += Integer.bitCount(due[slot * MOST_CLOCKS + clock]);
            }
            return found;
        }

        int pulseCount() {
            int found = 0;
            for (int clock = 0; clock < clockCount; clock++) {
                found += pulsesTo(clock);
            }
            return found;
        }

        // -- changes; they answer what was there before

        int addClock(int newPhase) {
            int clock = clockCount;
            phase[clock] = newPhase;
            clockCount++;
            return clock;
        }

        int changePhase(int clock, int newPhase) {
            int before = phase[clock];
            phase[clock] = newPhase;
            return before;
        }

        int changeDrift(int clock, int newDrift) {
            int before = drift[clock];
            drift[clock] = newDrift;
            return before;
        }

        void makeBlinker(int clock, int newRhythm, int newOffset) {
            rhythm[clock] = newRhythm;
            offset[clock] = newOffset;
        }

        void makeGood(int clock) {
            rhythm[clock] = 0;
            offset[clock] = 0;
        }

        /** The delay NONE removes the link. */
        int changeLink(int one, int other, int newDelay) {
            int before = delayBetween(one, other);
            if (before != newDelay) {
                dropPulses(one, other);
                dropPulses(other, one);
                delay[one * MOST_CLOCKS + other] = newDelay;
                delay[other * MOST_CLOCKS + one] = newDelay;
            }
            return before;
        }

        private void dropPulses(int from, int to) {
            for (int slot = 0; slot < SLOTS; slot++) {
                due[slot * MOST_CLOCKS + to] &= ~(1 << from);
            }
        }

        int changePeriod(int newPeriod) {
            int before = period;
            if (newPeriod > 0) {
                period = newPeriod;
                for (int clock = 0; clock < clockCount; clock++) {
                    phase[clock] %= newPeriod;
                }
            }
            return before;
        }

        int changeResponse(int what, int value) {
            int before = response[what];
            response[what] = value;
            return before;
        }

        // -- links

        int delayBetween(int one, int other) {
            return delay[one * MOST_CLOCKS + other];
        }

        int linkCount() {
            int ends = 0;
            for (int clock = 0; clock < clockCount; clock++) {
                ends += Integer.bitCount(neighboursOf(clock));
            }
            return ends / 2;
        }

        private int neighboursOf(int clock) {
            int found = 0;
            for (int other = 0; other < clockCount; other++) {
                if (delayBetween(clock, other) != NONE) {
                    found |= 1 << other;
                }
            }
            return found;
        }

        private int withNeighbours(int members) {
            int found = members;
            for (int clock = 0; clock < clockCount; clock++) {
                if ((members & (1 << clock)) != 0) {
                    found |= neighboursOf(clock);
                }
            }
            return found;
        }

        int linksFromTo(int one, int other) {
            int reached = 1 << one;
            for (int steps = 0; steps < clockCount; steps++) {
                if ((reached & (1 << other)) != 0) {
                    return steps;
                }
                reached = withNeighbours(reached);
            }
            return NONE;
        }

        /** The number of parts that the clocks of a set form, by the links among them alone. */
        int partsWithin(int members) {
            int left = members;
            int parts = 0;
            for (int clock = 0; clock < clockCount; clock++) {
                if ((left & (1 << clock)) != 0) {
                    left &= ~partOf(clock, members);
                    parts++;
                }
            }
            return parts;
        }

        private int partOf(int clock, int members) {
            int part = 1 << clock;
            for (int steps = 1; steps < clockCount; steps++) {
                part = withNeighbours(part) & members;
            }
            return part;
        }

        // -- ticks

        /** Answers how often clocks fired. */
        int passTicks(int n) {
            int fires = 0;
            for (int k = 0; k < n; k++) {
                time++;
                firedSet = 0;
                orderCount = 0;
                advancePhases();
                fireRipeClocks();
                fireBlinkers();
                deliverDelayedPulses();
                deliverPulsesAtOnce();
                noteFires();
                fires += orderCount;
            }
            return fires;
        }

        private void advancePhases() {
            for (int clock = 0; clock < clockCount; clock++) {
                if (isGood(clock)) {
                    phase[clock] += stepOf(clock);
                }
            }
        }

        private int stepOf(int clock) {
            int d = drift[clock];
            if (d == 0 || time % d != 0) {
                return 1;
            }
            return d > 0 ? 2 : 0;
        }

        private void fireRipeClocks() {
            for (int clock = 0; clock < clockCount; clock++) {
                if (isGood(clock) && phase[clock] >= period) {
                    fire(clock);
                }
            }
        }

        private void fireBlinkers() {
            for (int clock = 0; clock < clockCount; clock++) {
                int r = rhythm[clock];
                if (r != 0 && (time + offset[clock]) % r == 0) {
                    fire(clock);
                }
            }
        }

        private void deliverDelayedPulses() {
            int slot = slotOf(time);
            for (int clock = 0; clock < clockCount; clock++) {
                int pulses = Integer.bitCount(due[slot + clock]);
                due[slot + clock] = 0;
                for (int k = 0; k < pulses; k++) {
                    reach(clock);
                }
            }
        }

        private void deliverPulsesAtOnce() {
            // Clocks that fire meanwhile stand behind in the order, and have their turn, too.
            for (int k = 0; k < order.length && k < orderCount; k++) {
                for (int other = 0; other < clockCount; other++) {
                    if (delayBetween(order[k], other) == 0) {
                        reach(other);
                    }
                }
            }
        }

        private void reach(int clock) {
            if (!isGood(clock) || hasFired(clock) || phase[clock] < response[WINDOW]) {
                return;
            }
            phase[clock] = movedBy(phase[clock]);
            if (phase[clock] >= period) {
                fire(clock);
            }
        }

        private int movedBy(int p) {
            int k = response[STRENGTH];
            int whole = 16 * period;
            switch (response[KIND]) {
                case 0:
                    return p + p * k / 16;
                case 1:
                    return p + k;
                default:
                    return whole == 0 ? p : p + p * p * k / whole;
            }
        }

        private void fire(int clock) {
            if (hasFired(clock) || orderCount >= order.length) {
                return;
            }
            firedSet |= 1 << clock;
            order[orderCount] = clock;
            orderCount++;
            if (isGood(clock)) {
                phase[clock] = 0;
            }
            for (int other = 0; other < clockCount; other++) {
                int d = delayBetween(clock, other);
                if (d > 0) {
                    due[slotOf(time + d) + other] |= 1 << clock;
                }
            }
        }

        private void noteFires() {
            for (int k = 0; k < order.length && k < orderCount; k++) {
                log.note(time, order[k]);
            }
        }

        private static int slotOf(int tick) {
            return (tick & (SLOTS - 1)) * MOST_CLOCKS;
        }

        // -- groups

        /** The number of groups; counting stops at the first one beyond enough. */
        int groupCount(int enough) {
            int found = 0;
            for (int clock = 0; clock < clockCount && found <= enough; clock++) {
                if (isGood(clock) && isFirstOfGroup(clock)) {
                    found++;
                }
            }
            return found;
        }

        private boolean isFirstOfGroup(int clock) {
            for (int lower = 0; lower < clock; lower++) {
                if (isGood(lower) && phase[lower] == phase[clock]) {
                    return false;
                }
            }
            return true;
        }

        int goodClocksAt(int value) {
            int found = 0;
            for (int clock = 0; clock < clockCount; clock++) {
                if (isGood(clock) && phase[clock] == value) {
                    found |= 1 << clock;
                }
            }
            return found;
        }

        int phaseOfGroup(int index) {
            int before = 0;
            for (int value = 0; value < period; value++) {
                if (goodClocksAt(value) != 0) {
                    if (before == index) {
                        return value;
                    }
                    before++;
                }
            }
            return NONE;
        }

        int numberOfGroup(int clock) {
            if (!isGood(clock)) {
                return NONE;
            }
            int before = 0;
            for (int value = 0; value < phase[clock]; value++) {
                if (goodClocksAt(value) != 0) {
                    before++;
                }
            }
            return before;
        }

        int spreadOfGood() {
            int least = NONE;
            for (int clock = 0; clock < clockCount; clock++) {
                if (isGood(clock)) {
                    // A smallest stretch begins at the phase of a good clock.
                    int stretch = stretchFrom(phase[clock]);
                    least = least == NONE ? stretch : Math.min(least, stretch);
                }
            }
            return least == NONE ? 0 : least;
        }

        private int stretchFrom(int start) {
            int most = 0;
            for (int clock = 0; clock < clockCount; clock++) {
                if (isGood(clock)) {
                    int way = phase[clock] - start;
                    most = Math.max(most, way >= 0 ? way : way + period);
                }
            }
            return most;
        }

        int passUntilGroups(int groups, int limit) {
            for (int n = 1; n <= limit; n++) {
                passTicks(1);
                if (groupCount(groups) <= groups) {
                    return n;
                }
            }
            return NONE;
        }

        // -- situations

        boolean isAlike(Network other) {
            int apart = time - other.time;
            for (int clock = 0; clock < clockCount; clock++) {
                int cycle = isGood(clock) ? drift[clock] : rhythm[clock];
                if (phase[clock] != other.phase[clock] || (cycle != 0 && apart % cycle != 0)) {
                    return false;
                }
            }
            return hasSamePulses(other);
        }

        private boolean hasSamePulses(Network other) {
            for (int left = 1; left <= MOST_DELAY; left++) {
                int slot = slotOf(time + left);
                int otherSlot = slotOf(other.time + left);
                for (int clock = 0; clock < clockCount; clock++) {
                    if (due[slot + clock] != other.due[otherSlot + clock]) {
                        return false;
                    }
                }
            }
            return true;
        }
    }

    /** The saved states, in a ring. */
    private static final class Savings {
        private final Network[] states = new Network[MOST_SAVED];
        private int next;
        int count;

        Savings() {
            for (int k = 0; k < MOST_SAVED; k++) {
                states[k] = new Network();
            }
        }

        void save(Network network) {
            states[next].copyFrom(network);
            next = next + 1 < MOST_SAVED ? next + 1 : 0;
            if (count < MOST_SAVED) {
                count++;
            }
        }

        void restore(Network network) {
            next = next > 0 ? next - 1 : MOST_SAVED - 1;
            network.copyFrom(states[next]);
            count--;
        }
    }

    /** The text, and what it says as commands. */
    private static final class Script {
        // A command has 3 bytes or more; the one that is being read may stand behind 33 whole ones.
        private static final int MOST_COMMANDS = MOST_BYTES / 3 + 1;
        private static final int MOST_NUMBERS = 3;
        private static final int NO_BYTE = -1;

        int length;
        // After parse() the first byte that cannot stand where it stands, or the length.
        int place;
        int commandCount;
        private final byte[] text = new byte[MOST_BYTES];
        private final int[] letters = new int[MOST_COMMANDS];
        private final int[] numbers = new int[MOST_COMMANDS * MOST_NUMBERS];

        boolean isFull() {
            return length >= MOST_BYTES;
        }

        void put(int value) {
            text[length] = (byte) value;
            length++;
        }

        int letterOf(int command) {
            return letters[command];
        }

        int numberOf(int command, int index) {
            return numbers[command * MOST_NUMBERS + index];
        }

        boolean parse() {
            place = 0;
            commandCount = 0;
            for (int k = 0; k < MOST_COMMANDS && place < length; k++) {
                if (!readCommand()) {
                    return false;
                }
            }
            return true;
        }

        private boolean readCommand() {
            int letter = here();
            int wanted = numbersBehind(letter);
            if (wanted == 0) {
                return false;
            }
            place++;
            letters[commandCount] = letter;
            for (int index = 0; index < wanted; index++) {
                if (!readNumber(index) || !readSign(index + 1 < wanted ? ',' : ';')) {
                    return false;
                }
            }
            commandCount++;
            return true;
        }

        /** How many numbers a command has; 0 if no command begins with this byte. */
        private static int numbersBehind(int letter) {
            switch (letter) {
                case 'a':
                case 't':
                    return 1;
                case 'p':
                    return 2;
                case 'l':
                case 'b':
                    return 3;
                default:
                    return 0;
            }
        }

        private boolean readNumber(int index) {
            if (!isDigit(here())) {
                return false;
            }
            int value = here() - '0';
            place++;
            if (isDigit(here())) {
                value = 10 * value + here() - '0';
                place++;
            }
            numbers[commandCount * MOST_NUMBERS + index] = value;
            return true;
        }

        private boolean readSign(int sign) {
            if (here() != sign) {
                return false;
            }
            place++;
            return true;
        }

        private int here() {
            return place < length ? text[place] : NO_BYTE;
        }

        private static boolean isDigit(int value) {
            return value >= '0' && value <= '9';
        }
    }
}

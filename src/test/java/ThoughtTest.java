/** Promises 26 to 33. */
public final class ThoughtTest {
    private static final int NONE = PulseClocks.NONE;

    public static void main(String[] args) {
        ticksUntil();
        groupsAfter();
        repeats();
        repeatsByRule();
        repeatsByPulses();
        leastStrength();
        basin();
        worstPhase();
        blamed();
        firesIn();
        nothingChanges();
        Check.end();
    }

    /** Clock 0 makes two steps a tick and catches up with clock 1 in tick 10, at the phase 20. */
    private static PulseClocks catchingUp() {
        PulseClocks x = Check.withPhases(0, 10);
        x.setDrift(0, 1);
        return x;
    }

    /** Clock 1 fires in tick 1, and by that clock 0, if its phase is 39 - strength or more. */
    private static PulseClocks pair(int phase, int strength) {
        PulseClocks x = Check.withPhases(phase, 39);
        x.link(0, 1, 0);
        x.setResponse(1, strength);
        x.setResponse(2, 1);
        return x;
    }

    private static void ticksUntil() {
        PulseClocks x = catchingUp();
        Check.due("26: ticksUntil(1, 9)", x.ticksUntil(1, 9), NONE);
        Check.due("26: ticksUntil(1, 10)", x.ticksUntil(1, 10), 10);
        Check.due("26: ticksUntil(1, 400)", x.ticksUntil(1, 400), 10);
        Check.due("26: ticksUntil(2, 1)", x.ticksUntil(2, 1), 1);
        Check.due("26: ticksUntil(10, 400)", x.ticksUntil(10, 400), 1);
        Check.due("26: ticksUntil(0, 400)", x.ticksUntil(0, 400), NONE);
        x.tick(10);
        Check.due("26: the present groups do not count", x.ticksUntil(1, 5), NONE);
        Check.due("26: no clocks", new PulseClocks().ticksUntil(0, 1), 1);
        Check.due("26: three to two", three().ticksUntil(2, 400), 10);
        Check.due("26: three to one", three().ticksUntil(1, 400), NONE);
        Check.noArgument(x, "26: ticksUntil(-1, 1)", () -> x.ticksUntil(-1, 1));
        Check.noArgument(x, "26: ticksUntil(11, 1)", () -> x.ticksUntil(11, 1));
        Check.noArgument(x, "26: ticksUntil(1, 0)", () -> x.ticksUntil(1, 0));
        Check.noArgument(x, "26: ticksUntil(1, 401)", () -> x.ticksUntil(1, 401));
    }

    /** Clock 2 is a step off clock 1 for ever. */
    private static PulseClocks three() {
        PulseClocks x = catchingUp();
        x.add(11);
        return x;
    }

    private static void groupsAfter() {
        PulseClocks x = three();
        Check.due("27: groupsAfter(9)", x.groupsAfter(9), 3);
        Check.due("27: groupsAfter(10)", x.groupsAfter(10), 2);
        Check.due("27: groupsAfter(11)", x.groupsAfter(11), 2);
        Check.due("27: groupsAfter(12)", x.groupsAfter(12), 3);
        Check.due("27: groupsAfter(400)", Check.withPhases(1, 2, 3).groupsAfter(400), 3);
        Check.due("27: no clocks", new PulseClocks().groupsAfter(1), 0);
        Check.noArgument(x, "27: groupsAfter(0)", () -> x.groupsAfter(0));
        Check.noArgument(x, "27: groupsAfter(401)", () -> x.groupsAfter(401));
    }

    private static void cycle(String what, PulseClocks x, int start, int length) {
        int all = start + length;
        Check.due("28: " + what + ", repeats(400, true)", x.repeats(400, true), start);
        Check.due("28: " + what + ", repeats(400, false)", x.repeats(400, false), length);
        Check.due("28: " + what + ", at the limit", x.repeats(all, true), start);
        Check.due("28: " + what + ", at the limit", x.repeats(all, false), length);
        if (all > 1) {
            Check.due("28: " + what + ", below the limit", x.repeats(all - 1, true), NONE);
            Check.due("28: " + what + ", below the limit", x.repeats(all - 1, false), NONE);
        }
    }

    private static void repeats() {
        cycle("no clocks", new PulseClocks(), 0, 1);
        cycle("one clock", Check.withPhases(17), 0, 40);
        PulseClocks back = Check.withPhases(0, 35);
        back.link(0, 1, 0);
        back.setResponse(1, 32);
        back.setResponse(2, 1);
        cycle("there and back", back, 0, 8);
        PulseClocks pulses = Check.withPhases(3, 4);
        pulses.blink(0, 1, 0);
        pulses.blink(1, 1, 0);
        pulses.link(0, 1, 3);
        cycle("pulses gather", pulses, 3, 1);
        PulseClocks row = Check.withPhases(0, 20, 39);
        row.link(0, 1, 0);
        row.link(1, 2, 0);
        cycle("a long way to a long cycle", row, 76, 40);
        Check.noArgument(back, "28: repeats(0, true)", () -> back.repeats(0, true));
        Check.noArgument(back, "28: repeats(401, false)", () -> back.repeats(401, false));
    }

    /** The tick counter counts modulo the rhythms of blinkers and the drifts of good clocks. */
    private static void repeatsByRule() {
        PulseClocks blinker = Check.withPhases(3);
        blinker.blink(0, 7, 2);
        cycle("a blinker", blinker, 0, 7);
        blinker.tick(5);
        cycle("a blinker, later", blinker, 0, 7);
        blinker.setDrift(0, 4);
        cycle("a blinker's drift does not count", blinker, 0, 7);
        blinker.add(0);
        cycle("a blinker and a clock", blinker, 0, 280);
        PulseClocks still = Check.withPhases(3);
        still.setDrift(0, -1);
        cycle("a clock that stands still", still, 0, 1);
        PulseClocks slow = Check.withPhases(0);
        slow.setDrift(0, -9);
        cycle("a slow clock", slow, 0, 45);
        PulseClocks both = Check.withPhases(0, 0);
        both.blink(0, 99, 0);
        both.setDrift(1, -1);
        cycle("a rhythm of 99", both, 0, 99);
        both.setDrift(1, 0);
        Check.due("28: 99 * 40 is beyond 400", both.repeats(400, true), NONE);
    }

    /** Clock 0 stands still and ignores pulses, so the situations differ by those under way to it. */
    private static PulseClocks toTheStill(int delay) {
        PulseClocks x = Check.withPhases(0, 0);
        x.setDrift(0, -1);
        x.setResponse(0, 99);
        x.link(0, 1, delay);
        return x;
    }

    private static void repeatsByPulses() {
        for (int delay = 1; delay <= 9; delay++) {
            // After 40 ticks clock 1 is where it was, but for the pulse that it has begun.
            cycle("one pulse", toTheStill(delay), delay, 40);
            PulseClocks x = toTheStill(delay);
            x.blink(1, 1, 0);
            cycle("a pulse in every tick", x, delay, 1);
        }
        cycle("no pulse", toTheStill(0), 0, 40);
        PulseClocks far = toTheStill(9);
        far.tick(35);
        // Present, in tick 35: no pulse, phase 35; in tick 75 the pulse of tick 40 is gone again.
        cycle("the pulse comes and goes", far, 0, 40);
        far.tick(10);
        cycle("a pulse is under way", far, 0, 40);
        far.unlink(0, 1);
        far.link(0, 1, 9);
        cycle("that pulse is gone", far, 4, 40);
    }

    private static void leastStrength() {
        Check.due("29: 39 and 40 - 1", pair(38, 4).leastStrength(1), 1);
        Check.due("29: 31 + 9", pair(30, 4).leastStrength(1), 9);
        Check.due("29: 8 + 32", pair(7, 4).leastStrength(1), 32);
        Check.due("29: 7 + 33", pair(6, 4).leastStrength(1), NONE);
        Check.due("29: at 0 already", pair(39, 4).leastStrength(1), 0);
        Check.due("29: the strength there is does not count", pair(30, 32).leastStrength(1), 9);
        Check.due("29: no links", Check.withPhases(1, 2).leastStrength(400), NONE);
        Check.due("29: no clocks", new PulseClocks().leastStrength(400), 0);
        PulseClocks x = pair(30, 4);
        Check.noArgument(x, "29: leastStrength(0)", () -> x.leastStrength(0));
        Check.noArgument(x, "29: leastStrength(401)", () -> x.leastStrength(401));
    }

    private static void basin() {
        Check.due("30: 35 to 39", pair(0, 4).basin(0, 1), 5);
        Check.due("30: 39 alone", pair(0, 0).basin(0, 400), 1);
        Check.due("30: 7 to 39", pair(0, 32).basin(0, 1), 33);
        Check.due("30: no links", Check.withPhases(1, 2).basin(1, 400), 1);
        Check.due("30: one clock", Check.withPhases(1).basin(0, 1), 40);
        PulseClocks x = pair(0, 4);
        x.blink(0, 99, 0);
        Check.due("30: the phases of a blinker", x.basin(0, 1), 40);
        x.setPeriod(100);
        Check.due("30: up to P", x.basin(0, 1), 100);
        Check.noClock(x, "30: basin(2, 1)", () -> x.basin(2, 1));
        Check.noClock(x, "30: basin(-1, 0)", () -> x.basin(-1, 0));
        Check.noArgument(x, "30: basin(0, 0)", () -> x.basin(0, 0));
        Check.noArgument(x, "30: basin(0, 401)", () -> x.basin(0, 401));
    }

    private static void worstPhase() {
        Check.due("31: all are alike", Check.withPhases(5).worstPhase(0, 400), 0);
        Check.due("31: the lowest with NONE", pair(0, 32).worstPhase(0, 1), 0);
        Check.due("31: the lowest with NONE", Check.withPhases(0, 5).worstPhase(1, 400), 1);
        // Clock 0 stands still at 20, so clock 1 meets it after 20 - phase ticks, and after 40 from 20
        // itself: no phase waits longer.
        PulseClocks x = Check.withPhases(20, 0);
        x.setDrift(0, -1);
        Check.due("31: the longest wait", x.worstPhase(1, 400), 20);
        Check.due("31: the longest wait at the limit", x.worstPhase(1, 40), 20);
        Check.due("31: beyond the limit", x.worstPhase(1, 39), 20);
        Check.due("31: two beyond the limit", x.worstPhase(1, 38), 20);
        Check.due("31: 0 waits 20 ticks", x.worstPhase(1, 19), 0);
        PulseClocks y = Nets.longestFromP();
        Check.due("31: phases below P alone", y.worstPhase(0, 400), 0);
        Check.due("30: phases below P alone", y.basin(0, 400), 10);
        Check.due("30: eight phases wait for five ticks", y.basin(0, 4), 2);
        Check.noClock(x, "31: worstPhase(2, 1)", () -> x.worstPhase(2, 1));
        Check.noClock(x, "31: worstPhase(-1, 0)", () -> x.worstPhase(-1, 0));
        Check.noArgument(x, "31: worstPhase(0, 0)", () -> x.worstPhase(0, 0));
        Check.noArgument(x, "31: worstPhase(0, 401)", () -> x.worstPhase(0, 401));
    }

    private static void blamed() {
        PulseClocks x = Check.withPhases(10, 11, 10, 10);
        Check.due("32: no blinkers", x.blamed(400), NONE);
        x.blink(1, 1, 0);
        Check.due("32: 1 has another phase", x.blamed(400), NONE);
        x.blink(3, 1, 0);
        Check.due("32: 3 has the same one", x.blamed(1), 3);
        x.blink(2, 1, 0);
        Check.due("32: the lowest one", x.blamed(1), 2);
        PulseClocks y = pair(30, 8);
        y.add(30);
        y.blink(2, 1, 0);
        y.link(0, 2, 0);
        Check.due("32: 1 and 2 differ", y.blamed(1), NONE);
        Check.noArgument(x, "32: blamed(0)", () -> x.blamed(0));
        Check.noArgument(x, "32: blamed(401)", () -> x.blamed(401));
        PulseClocks ten = Check.withPhases(10, 10, 10, 10, 10, 10, 10, 10, 11, 12);
        ten.blink(0, 1, 0);
        Check.due("32: ten clocks", ten.blamed(400), NONE);
        ten.blink(8, 1, 0);
        Check.due("32: ten clocks", ten.blamed(400), NONE);
        ten.setPhase(9, 10);
        Check.due("32: ten clocks", ten.blamed(400), 0);
        ten.mend(0);
        ten.setPhase(8, 10);
        Check.due("32: ten clocks", ten.blamed(400), 8);
        cycle("ten clocks", ten, 0, 40);
        PulseClocks one = Check.withPhases(10);
        one.blink(0, 1, 0);
        Check.due("32: one alone", one.blamed(1), 0);
    }

    private static void firesIn() {
        PulseClocks x = catchingUp();
        Check.due("33: firesIn(0, 400)", x.firesIn(0, 400), 20);
        Check.due("33: firesIn(0, 20)", x.firesIn(0, 20), 20);
        Check.due("33: firesIn(0, 19)", x.firesIn(0, 19), NONE);
        Check.due("33: firesIn(1, 400)", x.firesIn(1, 400), 30);
        x.tick(20);
        Check.due("33: the latest tick does not count", x.firesIn(0, 400), 20);
        x.setDrift(1, -1);
        Check.due("33: it never fires", x.firesIn(1, 400), NONE);
        x.blink(1, 7, 2);
        Check.due("33: a blinker at 26", x.firesIn(1, 400), 6);
        Check.due("33: by a pulse", pair(36, 4).firesIn(0, 1), 1);
        Check.due("33: 35 + 4 does not fire", pair(34, 4).firesIn(0, 1), NONE);
        Check.noClock(x, "33: firesIn(2, 1)", () -> x.firesIn(2, 1));
        Check.noClock(x, "33: firesIn(-1, 0)", () -> x.firesIn(-1, 0));
        Check.noArgument(x, "33: firesIn(0, 0)", () -> x.firesIn(0, 0));
        Check.noArgument(x, "33: firesIn(0, 401)", () -> x.firesIn(0, 401));
    }

    private static void nothingChanges() {
        PulseClocks x = Check.withPhases(1, 12, 23, 34);
        x.link(0, 1, 2);
        x.link(1, 2, 0);
        x.link(2, 3, 9);
        x.blink(3, 5, 1);
        x.tick(33);
        Check.quiet(x, "26: ticksUntil", () -> x.ticksUntil(1, 400));
        Check.quiet(x, "27: groupsAfter", () -> x.groupsAfter(400));
        Check.quiet(x, "28: repeats", () -> x.repeats(400, true));
        Check.quiet(x, "29: leastStrength", () -> x.leastStrength(400));
        Check.quiet(x, "30: basin", () -> x.basin(0, 400));
        Check.quiet(x, "31: worstPhase", () -> x.worstPhase(0, 400));
        Check.quiet(x, "32: blamed", () -> x.blamed(400));
        Check.quiet(x, "33: firesIn", () -> x.firesIn(0, 400));
    }
}

/** Promises 17 to 21, and the sections RESPONSE, TICKS and LOG that they rest on. */
public final class TicksTest {
    private static final int NONE = PulseClocks.NONE;

    public static void main(String[] args) {
        tickArguments();
        counting();
        drifts();
        blinkers();
        kinds();
        window();
        delays();
        pulsesOfOneTick();
        tenClocks();
        firesOncePerTick();
        orderOfSteps();
        orderOfArrivals();
        chain();
        arrivalsFireBeforeThoseAtOnce();
        blinkersAreNotMoved();
        pulsesStayWhenTheClockChanges();
        log();
        fired();
        Check.end();
    }

    private static void tickArguments() {
        PulseClocks x = Check.withPhases(1);
        Check.noArgument(x, "17: tick(0)", () -> x.tick(0));
        Check.noArgument(x, "17: tick(-1)", () -> x.tick(-1));
        Check.noArgument(x, "17: tick(100)", () -> x.tick(100));
        Check.undoable(x, "17: tick(1)", () -> x.tick(1));
        Check.undoable(x, "17: tick(99)", () -> x.tick(99));
        PulseClocks empty = new PulseClocks();
        Check.due("17: tick(99) without clocks", empty.tick(99), 0);
        Check.due("18: now()", empty.now(), 99);
    }

    private static void counting() {
        PulseClocks x = Check.withPhases(0, 39);
        Check.due("18: now()", x.now(), 0);
        Check.due("17: tick(1)", x.tick(1), 1);
        Check.due("17: phase", x.clock(0, 0), 1);
        Check.due("17: phase of the one that fired", x.clock(1, 0), 0);
        Check.due("17: tick(38)", x.tick(38), 0);
        Check.due("17: phase", x.clock(0, 0), 39);
        Check.due("17: tick(1)", x.tick(1), 1);
        Check.due("17: phase", x.clock(0, 0), 0);
        Check.due("18: now()", x.now(), 40);
        Check.due("17: tick(99)", x.tick(99), 5);
        Check.due("18: now()", x.now(), 139);
        x.undo();
        Check.due("18: now() after undo()", x.now(), 40);
    }

    private static void drifts() {
        int[] drift = {3, -3, 1, -1, 9, -9, 0};
        int[] after = {13, 7, 20, 0, 11, 9, 10};
        for (int k = 0; k < drift.length; k++) {
            PulseClocks x = Check.withPhases(0);
            x.setDrift(0, drift[k]);
            x.tick(10);
            Check.due("17: phase with the drift " + drift[k], x.clock(0, 0), after[k]);
        }
        PulseClocks x = Check.withPhases(39, 38, 39);
        x.setDrift(0, 1);
        x.setDrift(1, 1);
        x.setDrift(2, -1);
        Check.due("17: a step of 2 beyond P", x.tick(1), 2);
        Check.due("17: phase", x.clock(0, 0), 0);
        Check.due("17: phase", x.clock(1, 0), 0);
        Check.due("17: phase", x.clock(2, 0), 39);
    }

    private static void blinkers() {
        PulseClocks x = Check.withPhases(30);
        x.setDrift(0, 1);
        x.blink(0, 7, 2);
        Check.due("17: before the rhythm", x.tick(4), 0);
        Check.due("17: 5 + 2 is a multiple of 7", x.tick(1), 1);
        Check.due("17: 6 to 11", x.tick(6), 0);
        Check.due("17: 12", x.tick(1), 1);
        Check.due("17: a blinker's phase stays", x.clock(0, 0), 30);
        x.blink(0, 1, 98);
        Check.due("17: rhythm 1", x.tick(9), 9);
        PulseClocks y = Check.withPhases(0);
        y.blink(0, 99, 98);
        Check.due("17: 1 + 98 is a multiple of 99", y.tick(1), 1);
        Check.due("17: the next 98 ticks", y.tick(98), 0);
        Check.due("17: tick 100", y.tick(1), 1);
    }

    /** A blinker that fires in every tick moves clock 0 at once. */
    private static int moved(int period, int phaseBeforeTick, int window, int strength, int kind) {
        PulseClocks x = new PulseClocks();
        x.setPeriod(period);
        x.add(phaseBeforeTick);
        x.add(0);
        x.blink(1, 1, 0);
        x.link(0, 1, 0);
        x.setResponse(0, window);
        x.setResponse(1, strength);
        x.setResponse(2, kind);
        int fires = x.tick(1);
        return fires == 2 ? 1000 + x.clock(0, 0) : x.clock(0, 0);
    }

    private static void kinds() {
        Check.due("kind 0: 20 + 20 * 4 / 16", moved(40, 19, 0, 4, 0), 25);
        Check.due("kind 0: 21 + 21 * 4 / 16", moved(40, 20, 0, 4, 0), 26);
        Check.due("kind 0: 1 + 15 / 16", moved(40, 0, 0, 15, 0), 1);
        Check.due("kind 0: 13 + 13 * 32 / 16", moved(40, 12, 0, 32, 0), 39);
        Check.due("kind 0: 14 + 14 * 32 / 16 fires", moved(40, 13, 0, 32, 0), 1000);
        Check.due("kind 1: 20 + 4", moved(40, 19, 0, 4, 1), 24);
        Check.due("kind 1: 7 + 32", moved(40, 6, 0, 32, 1), 39);
        Check.due("kind 1: 8 + 32 fires", moved(40, 7, 0, 32, 1), 1000);
        Check.due("kind 1: strength 0", moved(40, 38, 0, 0, 1), 39);
        Check.due("kind 2: 20 + 400 * 4 / 640", moved(40, 19, 0, 4, 2), 22);
        Check.due("kind 2: 30 + 900 * 5 / 640", moved(40, 29, 0, 5, 2), 37);
        Check.due("kind 2: 99 + 9801 * 1 / 1600 fires", moved(100, 98, 0, 1, 2), 1000);
        Check.due("kind 2: 61 + 3721 * 16 / 1600", moved(100, 60, 0, 16, 2), 98);
        Check.due("kind 2: 62 + 3844 * 16 / 1600 fires", moved(100, 61, 0, 16, 2), 1000);
        Check.due("kind 2: 99 + 9801 * 32 / 1600 fires", moved(100, 98, 0, 32, 2), 1000);
    }

    private static void window() {
        Check.due("window 20 and the phase 19", moved(40, 18, 20, 4, 1), 19);
        Check.due("window 20 and the phase 20", moved(40, 19, 20, 4, 1), 24);
        Check.due("window 99 and the phase 98", moved(100, 97, 99, 4, 1), 98);
        Check.due("window 99 and the phase 99", moved(100, 98, 99, 4, 1), 1000);
        Check.due("a window beyond P", moved(40, 38, 40, 32, 1), 39);
    }

    private static void delays() {
        for (int d = 1; d <= 9; d++) {
            PulseClocks x = Check.withPhases(0, 39);
            x.setResponse(2, 1);
            x.link(0, 1, d);
            x.tick(1);
            Check.due("21: underWay()", x.underWay(), 1);
            Check.due("21: to 0", x.clock(0, 6), 1);
            Check.due("21: to 1", x.clock(1, 6), 0);
            if (d > 1) {
                x.tick(d - 1);
            }
            Check.due("17: not before " + d + " ticks", x.clock(0, 0), d);
            Check.due("21: underWay()", x.underWay(), 1);
            x.tick(1);
            Check.due("17: after " + d + " ticks", x.clock(0, 0), d + 1 + 4);
            Check.due("21: underWay()", x.underWay(), 0);
        }
        PulseClocks x = Check.withPhases(0, 39);
        x.link(0, 1, 0);
        x.tick(1);
        Check.due("21: a pulse without delay is not under way", x.underWay(), 0);
    }

    private static void pulsesOfOneTick() {
        PulseClocks x = Check.withPhases(0, 0, 0, 0);
        x.setResponse(2, 1);
        for (int k = 1; k <= 3; k++) {
            x.blink(k, 10, 10 - k);
            x.link(0, k, 4 - k);
        }
        x.tick(3);
        Check.due("21: three under way to the same clock", x.clock(0, 6), 3);
        Check.due("17: phase before", x.clock(0, 0), 3);
        x.tick(1);
        Check.due("17: three pulses of 4", x.clock(0, 0), 16);
        Check.due("21: underWay()", x.underWay(), 0);

        PulseClocks y = Check.withPhases(0, 0);
        y.blink(1, 1, 0);
        y.link(0, 1, 9);
        y.tick(20);
        Check.due("21: nine pulses on one link", y.clock(0, 6), 9);
    }

    private static void tenClocks() {
        PulseClocks x = Check.withPhases(39, 38, 38, 38, 38, 38, 38, 38, 38, 38);
        x.setResponse(2, 1);
        for (int a = 0; a < 10; a++) {
            for (int b = 0; b < a; b++) {
                x.link(a, b, 0);
            }
        }
        Check.due("17: one fires all", x.tick(1), 10);
        Check.due("20: fired()", x.fired(), 1023);
        notes(x, "ten at once", 1, 0, 1, 2, 3, 4, 5, 6, 7, 8, 9);
        Check.due("17: all fire in step 1", x.tick(40), 10);
        for (int a = 0; a < 10; a++) {
            for (int b = 0; b < a; b++) {
                x.link(a, b, 9);
            }
        }
        x.tick(40);
        Check.due("21: 90 pulses", x.underWay(), 90);
        Check.due("21: to each clock 9", x.clock(9, 6), 9);
        x.setResponse(1, 3);
        Check.due("17: nine pulses of 3", x.tick(9), 0);
        Check.due("17: phase", x.clock(9, 0), 9 + 27);
        x.undo();
        x.setResponse(1, 4);
        Check.due("17: eight pulses of 4 are enough", x.tick(9), 10);
        Check.due("17: phase", x.clock(9, 0), 0);
    }

    private static void firesOncePerTick() {
        PulseClocks x = Check.withPhases(39, 0, 0);
        x.setResponse(2, 1);
        x.setResponse(1, 32);
        x.blink(1, 1, 0);
        x.blink(2, 1, 0);
        x.link(0, 1, 0);
        x.link(0, 2, 0);
        Check.due("17: a clock that has fired is not moved", x.tick(1), 3);
        Check.due("17: phase", x.clock(0, 0), 0);
        x.setPhase(0, 30);
        Check.due("17: the second pulse finds it fired", x.tick(1), 3);
        Check.due("17: phase", x.clock(0, 0), 0);
    }

    private static void notes(PulseClocks x, String what, int tick, int... clocks) {
        for (int k = 0; k < clocks.length; k++) {
            Check.due("19: " + what + ", clock of note " + k, x.noted(k, false), clocks[clocks.length - 1 - k]);
            Check.due("19: " + what + ", tick of note " + k, x.noted(k, true), tick);
        }
    }

    private static void orderOfSteps() {
        PulseClocks x = Check.withPhases(38, 0, 39, 39, 0);
        x.setResponse(2, 1);
        x.blink(1, 1, 0);
        x.blink(4, 1, 0);
        x.link(0, 2, 0);
        Check.due("17: tick(1)", x.tick(1), 5);
        notes(x, "ripe ones, blinkers, pulses", 1, 2, 3, 1, 4, 0);
    }

    private static void orderOfArrivals() {
        PulseClocks x = Check.withPhases(3, 3, 33, 3, 0);
        x.setResponse(2, 1);
        x.setResponse(1, 32);
        x.blink(4, 5, 0);
        x.link(4, 1, 2);
        x.link(4, 0, 2);
        x.link(1, 3, 0);
        x.tick(7);
        notes(x, "arrivals", 7, 2, 0, 1, 3);
        Check.due("20: fired()", x.fired(), 0b1111);
    }

    private static void chain() {
        PulseClocks x = Check.withPhases(39, 38, 38, 38, 38);
        x.setResponse(2, 1);
        x.link(0, 4, 0);
        x.link(0, 2, 0);
        x.link(2, 3, 0);
        x.link(4, 1, 0);
        x.link(4, 3, 0);
        x.tick(1);
        notes(x, "a chain", 1, 0, 2, 4, 3, 1);
        PulseClocks y = Check.withPhases(39, 30, 34);
        y.setResponse(2, 1);
        y.link(0, 1, 0);
        y.link(0, 2, 0);
        y.link(1, 2, 0);
        y.tick(1);
        Check.due("17: one pulse", y.clock(1, 0), 35);
        Check.due("17: one pulse", y.clock(2, 0), 39);
        Check.due("20: fired()", y.fired(), 1);
    }

    private static void arrivalsFireBeforeThoseAtOnce() {
        // In tick 2 clock 0 gets a delayed pulse from 2 and fires by it; 3 fires in step 1 and would
        // move 1 at once, which 0 then moves behind it.
        PulseClocks x = Check.withPhases(10, 30, 39, 38);
        x.setResponse(2, 1);
        x.setResponse(1, 28);
        x.link(2, 0, 1);
        x.link(3, 1, 0);
        x.tick(2);
        notes(x, "delayed before at once", 2, 3, 0, 1);
    }

    private static void blinkersAreNotMoved() {
        PulseClocks x = Check.withPhases(39, 39, 20);
        x.setResponse(2, 1);
        x.setResponse(1, 32);
        x.blink(1, 99, 0);
        x.blink(2, 99, 0);
        x.link(0, 1, 0);
        x.link(0, 2, 1);
        Check.due("17: tick(1)", x.tick(1), 1);
        Check.due("21: a pulse to a blinker counts", x.underWay(), 1);
        Check.due("17: tick(1)", x.tick(1), 0);
        Check.due("17: phase", x.clock(1, 0), 39);
        Check.due("17: phase", x.clock(2, 0), 20);
        Check.due("21: underWay()", x.underWay(), 0);
        // Clock 0 fires at 41 and 81, both blinkers at 99, and by clock 1 then clock 0.
        Check.due("17: a blinker keeps its phase when it fires", x.tick(96) + x.tick(1), 5);
        Check.due("17: phase", x.clock(1, 0), 39);
    }

    private static void pulsesStayWhenTheClockChanges() {
        PulseClocks x = Check.withPhases(0, 39);
        x.setResponse(2, 1);
        x.link(0, 1, 3);
        x.tick(1);
        x.blink(0, 99, 0);
        Check.due("21: to a blinker", x.clock(0, 6), 1);
        x.tick(1);
        x.mend(0);
        Check.due("21: to a good clock", x.clock(0, 6), 1);
        x.tick(2);
        Check.due("17: it arrives", x.clock(0, 0), 1 + 2 + 4);
    }

    private static void log() {
        PulseClocks x = Check.withPhases(0);
        Check.due("19: noted(0, true)", x.noted(0, true), NONE);
        x.blink(0, 1, 0);
        x.tick(59);
        Check.due("19: noted(58, true)", x.noted(58, true), 1);
        Check.due("19: noted(59, true)", x.noted(59, true), NONE);
        x.tick(1);
        Check.due("19: noted(59, true)", x.noted(59, true), 1);
        x.tick(40);
        for (int k = 0; k < 60; k++) {
            Check.due("19: noted(" + k + ", true)", x.noted(k, true), 100 - k);
            Check.due("19: noted(" + k + ", false)", x.noted(k, false), 0);
        }
        Check.due("19: noted(60, true)", x.noted(60, true), NONE);
        Check.due("19: noted(60, false)", x.noted(60, false), NONE);
        Check.due("19: noted(-1, true)", x.noted(-1, true), NONE);
        Check.due("19: noted(MIN, false)", x.noted(Integer.MIN_VALUE, false), NONE);
        Check.due("19: noted(MAX, false)", x.noted(Integer.MAX_VALUE, false), NONE);
        x.undo();
        Check.due("19: noted(0, true) after undo()", x.noted(0, true), 60);
        Check.due("19: noted(59, true) after undo()", x.noted(59, true), 1);
    }

    private static void fired() {
        PulseClocks x = Check.withPhases(39, 0, 39, 0, 0, 0, 0, 0, 0, 38);
        Check.due("20: fired()", x.fired(), 0);
        x.tick(1);
        Check.due("20: fired()", x.fired(), 0b101);
        x.tick(1);
        Check.due("20: fired()", x.fired(), 0b1000000000);
        x.tick(1);
        Check.due("20: fired()", x.fired(), 0);
        x.undo();
        Check.due("20: fired() after undo()", x.fired(), 0b1000000000);
        x.tick(99);
        Check.due("20: fired() is of the latest tick alone", x.fired(), 0);
    }
}

/** Promises 1 to 16. */
public final class ClocksAndLinksTest {
    private static final int NONE = PulseClocks.NONE;

    public static void main(String[] args) {
        aNewObject();
        add();
        setPhase();
        setDrift();
        blink();
        mend();
        link();
        linkAndPulses();
        unlink();
        setPeriod();
        setResponse();
        clocks();
        clock();
        linkOf();
        distance();
        components();
        isNeeded();
        tenClocks();
        Check.end();
    }

    private static void aNewObject() {
        PulseClocks x = new PulseClocks();
        Check.due("NONE", PulseClocks.NONE, -1);
        Check.due("1: clocks()", x.clocks(), 0);
        Check.due("1: now()", x.now(), 0);
        Check.due("1: fired()", x.fired(), 0);
        Check.due("1: underWay()", x.underWay(), 0);
        Check.due("1: noted(0, true)", x.noted(0, true), NONE);
        Check.due("1: clearText()", x.clearText(), 0);
        Check.due("1: execute()", x.execute(), 0);
        Check.due("1: undo()", x.undo(), 0);
        Check.noState(x, "1: undo()", () -> x.undo());
        Check.due("1: setPeriod", x.setPeriod(40), 40);
        Check.due("1: window", x.setResponse(0, 0), 0);
        Check.due("1: strength", x.setResponse(1, 4), 4);
        Check.due("1: kind", x.setResponse(2, 0), 0);
    }

    private static void add() {
        PulseClocks x = new PulseClocks();
        Check.noArgument(x, "2: add(-1)", () -> x.add(-1));
        Check.noArgument(x, "2: add(40)", () -> x.add(40));
        Check.noArgument(x, "2: add(MAX)", () -> x.add(Integer.MAX_VALUE));
        Check.undoable(x, "2: add(3)", () -> x.add(3));
        Check.due("2: add(0)", x.add(0), 0);
        Check.due("2: add(39)", x.add(39), 1);
        Check.due("2: phase", x.clock(1, 0), 39);
        Check.due("2: drift", x.clock(1, 1), 0);
        Check.due("2: good", x.clock(1, 2), 0);
        Check.due("2: links", x.clock(1, 5), 0);
        for (int k = 2; k < 10; k++) {
            Check.due("2: add", x.add(k), k);
        }
        Check.noState(x, "2: add(5) to ten", () -> x.add(5));
        Check.noArgument(x, "2: add(40) to ten", () -> x.add(40));
        x.undo();
        x.setPeriod(100);
        Check.due("2: add(99)", x.add(99), 9);
    }

    private static void setPhase() {
        PulseClocks x = Check.withPhases(5, 6);
        Check.undoable(x, "3: setPhase(0, 7)", () -> x.setPhase(0, 7));
        Check.undoable(x, "3: setPhase(0, 5)", () -> x.setPhase(0, 5));
        Check.due("3: setPhase(0, 39)", x.setPhase(0, 39), 5);
        Check.due("3: setPhase(0, 0)", x.setPhase(0, 0), 39);
        Check.due("3: phase", x.clock(0, 0), 0);
        Check.due("3: the other phase", x.clock(1, 0), 6);
        x.blink(1, 3, 0);
        Check.due("3: setPhase of a blinker", x.setPhase(1, 20), 6);
        Check.due("3: phase of a blinker", x.clock(1, 0), 20);
        Check.noClock(x, "3: setPhase(2, 0)", () -> x.setPhase(2, 0));
        Check.noClock(x, "3: setPhase(-1, 40)", () -> x.setPhase(-1, 40));
        Check.noArgument(x, "3: setPhase(0, 40)", () -> x.setPhase(0, 40));
        Check.noArgument(x, "3: setPhase(1, -1)", () -> x.setPhase(1, -1));
    }

    private static void setDrift() {
        PulseClocks x = Check.withPhases(5, 5);
        Check.undoable(x, "4: setDrift(0, 3)", () -> x.setDrift(0, 3));
        Check.undoable(x, "4: setDrift(0, 0)", () -> x.setDrift(0, 0));
        Check.due("4: setDrift(0, 9)", x.setDrift(0, 9), 0);
        Check.due("4: setDrift(0, -9)", x.setDrift(0, -9), 9);
        Check.due("4: drift", x.clock(0, 1), -9);
        Check.due("4: the other drift", x.clock(1, 1), 0);
        x.blink(1, 4, 0);
        Check.due("4: setDrift of a blinker", x.setDrift(1, 2), 0);
        Check.due("4: drift of a blinker", x.clock(1, 1), 2);
        Check.noClock(x, "4: setDrift(2, 0)", () -> x.setDrift(2, 0));
        Check.noClock(x, "4: setDrift(-1, 10)", () -> x.setDrift(-1, 10));
        Check.noArgument(x, "4: setDrift(0, 10)", () -> x.setDrift(0, 10));
        Check.noArgument(x, "4: setDrift(0, -10)", () -> x.setDrift(0, -10));
        Check.noArgument(x, "4: setDrift(0, MIN)", () -> x.setDrift(0, Integer.MIN_VALUE));
    }

    private static void blink() {
        PulseClocks x = Check.withPhases(5, 6, 7);
        Check.undoable(x, "5: blink(0, 3, 2)", () -> x.blink(0, 3, 2));
        Check.due("5: blink(0, 99, 98)", x.blink(0, 99, 98), 1);
        Check.due("5: rhythm", x.clock(0, 3), 99);
        Check.due("5: offset", x.clock(0, 4), 98);
        Check.due("5: blink(2, 1, 0)", x.blink(2, 1, 0), 2);
        Check.due("5: blink(0, 4, 3)", x.blink(0, 4, 3), 2);
        Check.due("5: rhythm", x.clock(0, 3), 4);
        Check.due("5: offset", x.clock(0, 4), 3);
        Check.undoable(x, "5: blink(0, 4, 3) again", () -> x.blink(0, 4, 3));
        Check.due("5: phase", x.clock(0, 0), 5);
        Check.noClock(x, "5: blink(3, 1, 0)", () -> x.blink(3, 1, 0));
        Check.noClock(x, "5: blink(-1, 0, 0)", () -> x.blink(-1, 0, 0));
        Check.noArgument(x, "5: blink(1, 0, 0)", () -> x.blink(1, 0, 0));
        Check.noArgument(x, "5: blink(1, 100, 0)", () -> x.blink(1, 100, 0));
        Check.noArgument(x, "5: blink(1, 1, -1)", () -> x.blink(1, 1, -1));
        Check.noArgument(x, "5: blink(1, 1, 99)", () -> x.blink(1, 1, 99));
    }

    private static void mend() {
        PulseClocks x = Check.withPhases(5, 6);
        x.setDrift(0, 4);
        x.blink(0, 3, 2);
        x.blink(1, 3, 2);
        Check.undoable(x, "6: mend(0)", () -> x.mend(0));
        Check.due("6: mend(0)", x.mend(0), 1);
        Check.due("6: good", x.clock(0, 2), 0);
        Check.due("6: rhythm", x.clock(0, 3), NONE);
        Check.due("6: offset", x.clock(0, 4), NONE);
        Check.due("6: phase", x.clock(0, 0), 5);
        Check.due("6: drift", x.clock(0, 1), 4);
        Check.noState(x, "6: mend(0) again", () -> x.mend(0));
        Check.noClock(x, "6: mend(2)", () -> x.mend(2));
        Check.noClock(x, "6: mend(-1)", () -> x.mend(-1));
        Check.due("6: mend(1)", x.mend(1), 0);
    }

    private static void link() {
        PulseClocks x = Check.withPhases(5, 6, 7);
        Check.undoable(x, "7: link(0, 1, 3)", () -> x.link(0, 1, 3));
        Check.due("7: link(0, 1, 9)", x.link(0, 1, 9), NONE);
        Check.due("7: linkOf(1, 0)", x.linkOf(1, 0), 9);
        Check.due("7: link(1, 0, 0)", x.link(1, 0, 0), 9);
        Check.undoable(x, "7: link(0, 1, 0) again", () -> x.link(0, 1, 0));
        Check.due("7: link(0, 1, 0) again", x.link(0, 1, 0), 0);
        Check.due("7: links of 0", x.clock(0, 5), 1);
        Check.noClock(x, "7: link(3, 0, 1)", () -> x.link(3, 0, 1));
        Check.noClock(x, "7: link(0, 3, 10)", () -> x.link(0, 3, 10));
        Check.noClock(x, "7: link(-1, -1, 1)", () -> x.link(-1, -1, 1));
        Check.noArgument(x, "7: link(2, 2, 1)", () -> x.link(2, 2, 1));
        Check.noArgument(x, "7: link(0, 2, -1)", () -> x.link(0, 2, -1));
        Check.noArgument(x, "7: link(0, 2, 10)", () -> x.link(0, 2, 10));
    }

    private static void linkAndPulses() {
        PulseClocks x = Check.withPhases(39, 39, 0);
        x.link(0, 1, 5);
        x.link(0, 2, 5);
        x.tick(1);
        Check.due("7: pulses under way", x.underWay(), 3);
        x.link(1, 0, 5);
        Check.due("7: they stay with the same delay", x.underWay(), 3);
        x.link(1, 0, 4);
        Check.due("7: those on the link go, in both directions", x.underWay(), 1);
        Check.due("7: to 0", x.clock(0, 6), 0);
        Check.due("7: to 1", x.clock(1, 6), 0);
        Check.due("7: to 2", x.clock(2, 6), 1);
        x.undo();
        Check.due("7: undo() brings them back", x.underWay(), 3);
        for (int ticks = 1; ticks <= 40; ticks++) {
            PulseClocks y = Check.withPhases(0, 0);
            y.blink(0, 1, 0);
            y.blink(1, 1, 0);
            y.link(0, 1, 9);
            y.tick(ticks);
            Check.due("7: pulses after " + ticks + " ticks", y.underWay(), 2 * Math.min(ticks, 9));
            y.link(0, 1, 8);
            Check.due("7: all are gone", y.underWay(), 0);
        }
    }

    private static void unlink() {
        PulseClocks x = Check.withPhases(39, 39, 39);
        x.link(0, 1, 5);
        x.link(1, 2, 5);
        x.link(0, 2, 0);
        x.tick(1);
        Check.due("8: pulses under way", x.underWay(), 4);
        Check.undoable(x, "8: unlink(0, 1)", () -> x.unlink(0, 1));
        Check.due("8: unlink(1, 0)", x.unlink(1, 0), 2);
        Check.due("8: pulses on it are gone", x.underWay(), 2);
        Check.due("8: linkOf(0, 1)", x.linkOf(0, 1), NONE);
        Check.due("8: linkOf(1, 0)", x.linkOf(1, 0), NONE);
        Check.noState(x, "8: unlink(0, 1) again", () -> x.unlink(0, 1));
        Check.noState(x, "8: unlink(1, 1)", () -> x.unlink(1, 1));
        Check.noClock(x, "8: unlink(0, 3)", () -> x.unlink(0, 3));
        Check.noClock(x, "8: unlink(-1, 0)", () -> x.unlink(-1, 0));
        Check.due("8: unlink(0, 2)", x.unlink(0, 2), 1);
        Check.due("8: unlink(1, 2)", x.unlink(1, 2), 0);
        x.link(0, 1, 5);
        Check.due("8: a new link has no pulses", x.underWay(), 0);
    }

    private static void setPeriod() {
        PulseClocks x = Check.withPhases(39, 12, 11, 30);
        x.blink(3, 2, 0);
        Check.undoable(x, "9: setPeriod(12)", () -> x.setPeriod(12));
        Check.undoable(x, "9: setPeriod(40)", () -> x.setPeriod(40));
        Check.due("9: setPeriod(12)", x.setPeriod(12), 40);
        Check.due("9: 39 modulo 12", x.clock(0, 0), 3);
        Check.due("9: 12 modulo 12", x.clock(1, 0), 0);
        Check.due("9: 11", x.clock(2, 0), 11);
        Check.due("9: a blinker's 30 modulo 12", x.clock(3, 0), 6);
        Check.noArgument(x, "9: setPeriod(9)", () -> x.setPeriod(9));
        Check.noArgument(x, "9: setPeriod(101)", () -> x.setPeriod(101));
        Check.noArgument(x, "9: setPeriod(0)", () -> x.setPeriod(0));
        Check.due("9: setPeriod(100)", x.setPeriod(100), 12);
        Check.due("9: setPeriod(10)", x.setPeriod(10), 100);
        Check.due("9: 11 modulo 10", x.clock(2, 0), 1);
    }

    private static void setResponse() {
        PulseClocks x = new PulseClocks();
        for (int what = 0; what < 3; what++) {
            int w = what;
            int most = what == 0 ? 99 : what == 1 ? 32 : 2;
            x.setResponse(w, 1);
            Check.undoable(x, "10: setResponse(" + w + ", 2)", () -> x.setResponse(w, 2));
            Check.undoable(x, "10: setResponse(" + w + ", 1)", () -> x.setResponse(w, 1));
            Check.due("10: setResponse", x.setResponse(w, most), 1);
            Check.due("10: setResponse", x.setResponse(w, 0), most);
            Check.noArgument(x, "10: value too great", () -> x.setResponse(w, most + 1));
            Check.noArgument(x, "10: value -1", () -> x.setResponse(w, -1));
        }
        Check.noArgument(x, "10: setResponse(3, 0)", () -> x.setResponse(3, 0));
        Check.noArgument(x, "10: setResponse(-1, 0)", () -> x.setResponse(-1, 0));
        Check.noArgument(x, "10: setResponse(MIN, 0)", () -> x.setResponse(Integer.MIN_VALUE, 0));
    }

    private static void clocks() {
        PulseClocks x = new PulseClocks();
        for (int k = 1; k <= 10; k++) {
            x.add(k);
            Check.due("11: clocks()", x.clocks(), k);
        }
        x.undo();
        Check.due("11: clocks() after undo()", x.clocks(), 9);
    }

    private static void clock() {
        PulseClocks x = Check.withPhases(39, 7, 8);
        x.setDrift(1, -2);
        x.blink(2, 50, 13);
        x.link(0, 1, 2);
        x.link(0, 2, 9);
        x.tick(1);
        int[][] want = {{0, 0, 0, NONE, NONE, 2, 0}, {8, -2, 0, NONE, NONE, 1, 1}, {8, 0, 1, 50, 13, 1, 1}};
        for (int c = 0; c < 3; c++) {
            for (int what = 0; what <= 6; what++) {
                Check.due("12: clock(" + c + ", " + what + ")", x.clock(c, what), want[c][what]);
            }
        }
        Check.noClock(x, "12: clock(3, 0)", () -> x.clock(3, 0));
        Check.noClock(x, "12: clock(-1, 7)", () -> x.clock(-1, 7));
        Check.noArgument(x, "12: clock(0, 7)", () -> x.clock(0, 7));
        Check.noArgument(x, "12: clock(0, -1)", () -> x.clock(0, -1));
    }

    private static void linkOf() {
        PulseClocks x = Check.withPhases(1, 2, 3);
        x.link(2, 0, 4);
        x.link(1, 2, 0);
        Check.due("13: linkOf(0, 2)", x.linkOf(0, 2), 4);
        Check.due("13: linkOf(2, 0)", x.linkOf(2, 0), 4);
        Check.due("13: linkOf(2, 1)", x.linkOf(2, 1), 0);
        Check.due("13: linkOf(0, 1)", x.linkOf(0, 1), NONE);
        Check.due("13: linkOf(1, 1)", x.linkOf(1, 1), NONE);
        Check.noClock(x, "13: linkOf(3, 0)", () -> x.linkOf(3, 0));
        Check.noClock(x, "13: linkOf(0, 3)", () -> x.linkOf(0, 3));
        Check.noClock(x, "13: linkOf(-1, 0)", () -> x.linkOf(-1, 0));
    }

    private static void distance() {
        PulseClocks x = Check.withPhases(0, 0, 0, 0, 0, 0, 0, 0, 0, 0);
        Check.due("14: distance(0, 1) without links", x.distance(0, 1), NONE);
        for (int k = 0; k < 9; k++) {
            x.link(k, k + 1, k);
        }
        Check.due("14: distance(0, 0)", x.distance(0, 0), 0);
        Check.due("14: distance(0, 9)", x.distance(0, 9), 9);
        Check.due("14: distance(9, 0)", x.distance(9, 0), 9);
        x.link(1, 7, 9);
        Check.due("14: distance(0, 9)", x.distance(0, 9), 4);
        Check.due("14: distance(4, 8)", x.distance(4, 8), 4);
        x.unlink(8, 9);
        Check.due("14: distance(0, 9)", x.distance(0, 9), NONE);
        Check.noClock(x, "14: distance(0, 10)", () -> x.distance(0, 10));
        Check.noClock(x, "14: distance(-1, 0)", () -> x.distance(-1, 0));
    }

    private static void components() {
        PulseClocks x = new PulseClocks();
        Check.due("15: components()", x.components(), 0);
        for (int k = 1; k <= 10; k++) {
            x.add(0);
            Check.due("15: components()", x.components(), k);
        }
        for (int k = 0; k < 9; k++) {
            x.link(9 - k, 8 - k, 1);
            Check.due("15: components()", x.components(), 9 - k);
        }
        x.link(0, 9, 0);
        Check.due("15: components() of a ring", x.components(), 1);
        x.unlink(3, 4);
        Check.due("15: components() of a row", x.components(), 1);
        x.unlink(7, 8);
        Check.due("15: components() of two rows", x.components(), 2);
    }

    private static void tenClocks() {
        PulseClocks x = Check.withPhases(39, 38, 37, 36, 35, 34, 33, 32, 31, 30);
        for (int k = 1; k < 10; k++) {
            x.link(0, k, 9);
            Check.due("5: blink", x.blink(k, k, 0), k);
        }
        Check.due("12: links of 0", x.clock(0, 5), 9);
        Check.due("14: distance(9, 8)", x.distance(9, 8), 2);
        Check.due("15: components()", x.components(), 1);
        Check.due("16: isNeeded(0)", x.isNeeded(0), true);
        Check.due("16: isNeeded(9)", x.isNeeded(9), false);
        Check.due("8: unlink(9, 0)", x.unlink(9, 0), 8);
        Check.due("6: mend(9)", x.mend(9), 8);
        Check.due("9: setPeriod(10)", x.setPeriod(10), 40);
        for (int k = 0; k < 10; k++) {
            Check.due("9: phase of " + k, x.clock(k, 0), 9 - k);
        }
    }

    private static void isNeeded() {
        PulseClocks x = Check.withPhases(0, 0, 0, 0, 0);
        x.link(0, 1, 0);
        x.link(1, 2, 0);
        x.link(2, 3, 0);
        boolean[] row = {false, true, true, false, false};
        for (int c = 0; c < 5; c++) {
            Check.due("16: isNeeded(" + c + ") in a row", x.isNeeded(c), row[c]);
        }
        x.link(0, 3, 0);
        for (int c = 0; c < 5; c++) {
            Check.due("16: isNeeded(" + c + ") in a ring", x.isNeeded(c), false);
        }
        x.link(3, 4, 0);
        Check.due("16: isNeeded(3) that holds 4", x.isNeeded(3), true);
        x.blink(3, 5, 0);
        Check.due("16: isNeeded(3) as a blinker", x.isNeeded(3), true);
        Check.noClock(x, "16: isNeeded(5)", () -> x.isNeeded(5));
        Check.noClock(x, "16: isNeeded(-1)", () -> x.isNeeded(-1));
    }
}

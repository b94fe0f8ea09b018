/** The terms GROUPS and SITUATIONS, sentence by sentence. */
final class GroupTerms {
    private GroupTerms() {
    }

    static void tell(Sentences s) {
        groups(s);
        situations(s);
        pulsesOfSituations(s);
    }

    private static void groups(Sentences s) {
        s.in("GROUPS");
        s.says("A group is the set of all good clocks that have a certain phase.", () -> {
            PulseClocks x = Check.withPhases(8, 3, 8, 3, 8, 8, 3, 3, 8, 3);
            Check.due("groups()", x.groups(), 2);
            Check.due("those with 3", x.group(0, false), 0b1011001010);
            Check.due("those with 8", x.group(1, false), 0b0100110101);
            for (int c = 1; c < 10; c += 2) {
                x.blink(c, 9, 0);
            }
            Check.due("groups() with blinkers", x.groups(), 2);
            Check.due("those with 3 without blinkers", x.group(0, false), 0b0001000000);
            x.blink(6, 9, 0);
            Check.due("groups() if all with 3 are blinkers", x.groups(), 1);
        });
        s.says("Groups are numbered from 0 by their phases, the lowest first.", () -> {
            PulseClocks x = Check.withPhases(39, 4, 0, 38, 17, 1, 25, 30, 9, 11);
            int[] phases = {0, 1, 4, 9, 11, 17, 25, 30, 38, 39};
            int[] clocks = {2, 5, 1, 8, 9, 4, 6, 7, 3, 0};
            for (int g = 0; g < 10; g++) {
                Check.due("phase of group " + g, x.group(g, true), phases[g]);
                Check.due("clocks of group " + g, x.group(g, false), 1 << clocks[g]);
                Check.due("groupOf(" + clocks[g] + ")", x.groupOf(clocks[g]), g);
            }
        });
        s.says("The spread of the good clocks is the smallest number s such that for some phase x each good clock "
            + "has one of the phases x, x + 1, .., x + s, modulo P", () -> {
            for (int period : new int[] {10, 11, 40, 100}) {
                for (int phase = 0; phase < period; phase++) {
                    pair(period, phase);
                }
            }
            Check.due("P - 1, 0, 1", Check.withPhases(39, 0, 1).spread(), 2);
            Check.due("across 0 and not", Check.withPhases(35, 5, 20).spread(), 25);
            Check.due("three apart alike", Check.withPhases(0, 13, 26).spread(), 26);
            Check.due("the gap lies below 30", Check.withPhases(30, 31, 2).spread(), 12);
            Check.due("the gap lies above 31", Check.withPhases(25, 31, 22).spread(), 9);
            PulseClocks ten = new PulseClocks();
            ten.setPeriod(10);
            for (int c = 0; c < 10; c++) {
                ten.add(c);
            }
            Check.due("all phases that there are", ten.spread(), 9);
            ten.blink(4, 9, 0);
            Check.due("without a blinker's", ten.spread(), 8);
        });
        s.says("(0 without good clocks).", () -> {
            Check.due("no clocks", Nets.none().spread(), 0);
            PulseClocks x = Check.withPhases(3, 30);
            x.blink(0, 9, 0);
            x.blink(1, 9, 0);
            Check.due("blinkers alone", x.spread(), 0);
        });
    }

    private static void pair(int period, int phase) {
        PulseClocks x = new PulseClocks();
        x.setPeriod(period);
        x.add(0);
        x.add(phase);
        Check.due("0 and " + phase + " of " + period, x.spread(), Math.min(phase, period - phase));
        int last = (phase + period - 1) % period;
        x.setPhase(0, period - 1);
        x.setPhase(1, last);
        Check.due("P - 1 and " + last + " of " + period, x.spread(), Math.min(phase, period - phase));
    }

    private static void cycle(String what, PulseClocks x, int start, int length) {
        Check.due(what + ", the earlier one", x.repeats(400, true), start);
        Check.due(what + ", from it to the later one", x.repeats(400, false), length);
    }

    private static void situations(Sentences s) {
        s.in("SITUATIONS");
        s.says("Two situations are alike if all clocks have the same phases,", () -> {
            for (int period = 10; period <= 100; period++) {
                PulseClocks x = new PulseClocks();
                x.setPeriod(period);
                x.add(0);
                x.add(3);
                cycle("the period " + period, x, 0, period);
            }
            // Nine clocks stand still, and the tenth alone makes the situations differ.
            for (int moving = 0; moving < 10; moving++) {
                PulseClocks x = Check.withPhases(0, 1, 2, 3, 4, 5, 6, 7, 8, 9);
                for (int c = 0; c < 10; c++) {
                    x.setDrift(c, c == moving ? 0 : -1);
                }
                cycle("clock " + moving + " moves", x, 0, 40);
            }
        });
        s.says("for each blinker t is the same modulo its rhythm,", () -> {
            for (int rhythm = 1; rhythm <= 99; rhythm++) {
                PulseClocks x = Check.withPhases(3);
                x.blink(0, rhythm, rhythm / 2);
                cycle("the rhythm " + rhythm, x, 0, rhythm);
                x.tick(1 + rhythm / 3);
                cycle("the rhythm " + rhythm + ", later", x, 0, rhythm);
            }
            PulseClocks two = Check.withPhases(3, 4);
            two.blink(0, 6, 0);
            two.blink(1, 8, 1);
            cycle("the rhythms 6 and 8", two, 0, 24);
            two.setDrift(0, 7);
            cycle("a blinker's drift does not count", two, 0, 24);
        });
        s.says("and for each good clock with a drift other than 0 t is the same modulo its drift.", () -> {
            // From the phase 0 in tick 0: 1 3 4 6 7 9 0, and that in tick 7; 2 3 5 6 8 9 0, and that in tick 14.
            PulseClocks fast = tenLong(0, 2);
            cycle("the drift 2", fast, 0, 14);
            // From the phase 0 in tick 0: 1 1 2 2 .. 9 9, and 0 in the ticks 19 and 20.
            PulseClocks slow = tenLong(0, -2);
            cycle("the drift -2", slow, 0, 20);
            for (int drift = 1; drift <= 9; drift++) {
                roundsOf(drift);
            }
        });
    }

    private static PulseClocks tenLong(int phase, int drift) {
        PulseClocks x = new PulseClocks();
        x.setPeriod(10);
        x.add(phase);
        x.setDrift(0, drift);
        return x;
    }

    /** A single clock, counted here once more: seen has for its phase and t modulo its drift the tick. */
    private static void roundsOf(int drift) {
        for (int sign = -1; sign <= 1; sign += 2) {
            int phase = 0;
            int t = 0;
            int[][] seen = new int[10][drift];
            int start = -1;
            for (int n = 1; start < 0; n++) {
                seen[phase][t % drift] = n;
                t++;
                phase += t % drift != 0 ? 1 : sign > 0 ? 2 : 0;
                phase = phase >= 10 ? 0 : phase;
                start = seen[phase][t % drift] - 1;
            }
            cycle("the drift " + sign * drift, tenLong(0, sign * drift), start, t - start);
        }
    }

    /** Clocks 0 and 1 count to 10, ignore all pulses, and 2 stands still. */
    private static PulseClocks carriers(int first, int second) {
        PulseClocks x = new PulseClocks();
        x.setPeriod(10);
        x.setResponse(0, 99);
        x.add(first);
        x.add(second);
        x.add(0);
        x.setDrift(2, -1);
        return x;
    }

    /** Ten clocks that ignore pulses: one counts to 10 and sends them to another one; all others stand still. */
    private static PulseClocks oneOfTen(int from, int to) {
        PulseClocks x = new PulseClocks();
        x.setPeriod(10);
        x.setResponse(0, 99);
        for (int c = 0; c < 10; c++) {
            x.add(0);
            x.setDrift(c, c == from ? 0 : -1);
        }
        x.link(from, to, 9);
        return x;
    }

    private static void pulsesOfSituations(Sentences s) {
        s.says("the same pulses are under way", () -> {
            for (int delay = 1; delay <= 9; delay++) {
                // After 10 ticks clock 0 is where it was, but its pulse is under way, if it takes so long.
                PulseClocks x = carriers(0, 0);
                x.setDrift(1, -1);
                x.link(0, 2, delay);
                cycle("one pulse with the delay " + delay, x, delay, 10);
                x.blink(0, 1, 0);
                cycle("a pulse in every tick with the delay " + delay, x, delay, 1);
            }
            for (int from = 0; from < 10; from++) {
                for (int to = 0; to < 10; to++) {
                    if (from != to) {
                        cycle("one pulse from " + from + " to " + to, oneOfTen(from, to), 9, 10);
                    }
                }
            }
            PulseClocks none = carriers(0, 0);
            none.link(0, 2, 0);
            cycle("pulses at once are not under way", none, 0, 10);
        });
        s.says("(on the same links,", () -> {
            // The pulse that is under way came from 0, but as if it had come from 1, which is at 0 now.
            PulseClocks x = carriers(9, 8);
            x.link(0, 2, 9);
            x.link(1, 2, 9);
            x.tick(1);
            x.setPhase(0, 9);
            x.setPhase(1, 0);
            Check.due("underWay()", x.underWay(), 1);
            cycle("a pulse on another link", x, 9, 10);
        });
        s.says("in the same direction,", () -> {
            PulseClocks x = carriers(9, 8);
            x.link(0, 1, 9);
            x.tick(1);
            x.setPhase(0, 9);
            x.setPhase(1, 0);
            Check.due("underWay()", x.underWay(), 1);
            cycle("a pulse in the other direction", x, 9, 10);
        });
        s.says("with the same number of ticks until they arrive),", () -> {
            PulseClocks x = carriers(9, 0);
            x.setDrift(1, -1);
            x.link(0, 2, 9);
            x.tick(1);
            x.setPhase(0, 3);
            Check.due("underWay()", x.underWay(), 1);
            cycle("a pulse with 9 ticks left instead of 6", x, 9, 10);
        });
    }
}

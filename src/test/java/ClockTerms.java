/** The terms CLOCKS, LINKS and RESPONSE, sentence by sentence. */
final class ClockTerms {
    private static final int NONE = PulseClocks.NONE;

    private ClockTerms() {
    }

    static void tell(Sentences s) {
        clocks(s);
        blinkers(s);
        links(s);
        response(s);
        firing(s);
    }

    private static void clocks(Sentences s) {
        s.in("CLOCKS");
        s.says("There are at most 10 clocks, numbered from 0 in the order in which they were added.", () -> {
            PulseClocks x = new PulseClocks();
            for (int c = 0; c < 10; c++) {
                Check.due("add", x.add(30 - c), c);
            }
            for (int c = 0; c < 10; c++) {
                Check.due("phase of " + c, x.clock(c, 0), 30 - c);
            }
            Twins.noState("an eleventh clock", Nets::full, y -> y.add(0));
            Check.due("clocks()", Nets.full().clocks(), 10);
            Twins.noClock("clock 10 of ten", Nets::full, y -> y.clock(10, 0));
        });
        s.says("There is a period P, from 10 to 100 (initially 40).", () -> {
            Check.due("the period before", Nets.none().setPeriod(10), 40);
            Twins.takes("setPeriod", Nets::rich, 10, 100, IllegalArgumentException.class, PulseClocks::setPeriod);
            for (int period = 10; period <= 100; period++) {
                PulseClocks x = new PulseClocks();
                x.setPeriod(period);
                x.add(0);
                Check.due("firesIn with the period " + period, x.firesIn(0, 400), period);
            }
        });
        s.says("A clock has a phase, from 0 to P - 1, and a drift from -9 to 9 (initially 0).", () -> {
            Check.due("the drift of a new clock", Check.withPhases(7).clock(0, 1), 0);
            Twins.takes("setPhase", Nets::rich, 0, 36, IllegalArgumentException.class, (x, v) -> x.setPhase(0, v));
            Twins.takes("setDrift", Nets::rich, -9, 9, IllegalArgumentException.class, (x, v) -> x.setDrift(0, v));
            phasesStayBelowP();
        });
        s.says("It is good (as initially) or a blinker.", () -> {
            PulseClocks x = Check.withPhases(7);
            Check.due("a new clock is no blinker", x.clock(0, 2), 0);
            x.blink(0, 3, 0);
            Check.due("behind blink()", x.clock(0, 2), 1);
            x.mend(0);
            Check.due("behind mend()", x.clock(0, 2), 0);
        });
    }

    /** By steps of 2 and strong pulses phases would go beyond P, and beyond twice P. */
    private static void phasesStayBelowP() {
        for (int kind = 0; kind <= 2; kind++) {
            PulseClocks x = Nets.full();
            x.setPeriod(10);
            x.setResponse(1, 32);
            x.setResponse(2, kind);
            x.setDrift(0, 1);
            x.setDrift(1, 2);
            for (int n = 0; n < 30; n++) {
                x.tick(1);
                for (int c = 0; c < 10; c++) {
                    int phase = x.clock(c, 0);
                    Check.due("phase " + phase + " is below P", phase >= 0 && phase < 10, true);
                }
            }
        }
    }

    private static void blinkers(Sentences s) {
        s.says("A blinker has a rhythm, from 1 to 99, and an offset, from 0 to 98;", () -> {
            Twins.takes("rhythm", Nets::rich, 1, 99, IllegalArgumentException.class, (x, v) -> x.blink(4, v, 0));
            Twins.takes("offset", Nets::rich, 0, 98, IllegalArgumentException.class, (x, v) -> x.blink(4, 9, v));
            for (int v = 1; v <= 99; v++) {
                PulseClocks x = Check.withPhases(0);
                x.blink(0, v, 99 - v);
                Check.due("rhythm", x.clock(0, 3), v);
                Check.due("offset", x.clock(0, 4), 99 - v);
            }
        });
        s.says("its phase does not change by ticks as long as it is a blinker,", () -> {
            PulseClocks x = Check.withPhases(39, 0, 17);
            for (int c = 0; c < 3; c++) {
                x.setDrift(c, 1);
                x.blink(c, 99, 0);
            }
            Check.due("no blinker fires in 98 ticks", x.tick(98), 0);
            Check.due("the phase P - 1", x.clock(0, 0), 39);
            Check.due("the phase 0", x.clock(1, 0), 0);
            Check.due("three blinkers fire in tick 99", x.tick(1), 3);
            Check.due("a phase behind firing", x.clock(2, 0), 17);
            x.mend(0);
            x.mend(2);
            Check.due("the good clock goes on from P - 1 and fires", x.tick(1), 1);
            Check.due("the good clock goes on from 17", x.clock(2, 0), 19);
            Check.due("the blinker does not", x.clock(1, 0), 0);
        });
        s.says("and pulses that reach it have no effect on it", () -> {
            for (int delay = 0; delay <= 9; delay++) {
                PulseClocks x = Check.withPhases(39, 39);
                x.setResponse(1, 32);
                x.setResponse(2, 1);
                x.blink(0, 1, 0);
                x.blink(1, 99, 0);
                x.link(0, 1, delay);
                Check.due("fires in 20 ticks", x.tick(20), 20);
                Check.due("phase", x.clock(1, 0), 39);
            }
        });
        s.says("(they are under way, and count, like all others).", () -> {
            PulseClocks x = Check.withPhases(0, 0, 0);
            for (int c = 0; c < 3; c++) {
                x.blink(c, c == 0 ? 1 : 99, 0);
            }
            x.link(0, 1, 9);
            x.link(0, 2, 4);
            x.tick(12);
            Check.due("to blinker 1", x.clock(1, 6), 9);
            Check.due("to blinker 2", x.clock(2, 6), 4);
            Check.due("underWay()", x.underWay(), 13);
        });
    }

    private static void links(Sentences s) {
        s.in("LINKS");
        s.says("Between two different clocks there is a link or not;", () -> {
            for (int c = 0; c < 6; c++) {
                int same = c;
                Twins.noArgument("a link of " + c + " with itself", Nets::rich, x -> x.link(same, same, 1));
                Check.due("linkOf(" + c + ", " + c + ")", Nets.rich().linkOf(c, c), NONE);
            }
            PulseClocks x = Check.withPhases(1, 2, 3);
            Check.due("no link", x.linkOf(0, 2), NONE);
            x.link(0, 2, 0);
            Check.due("a link", x.linkOf(0, 2), 0);
            x.link(2, 0, 3);
            Check.due("it is one link still", x.clock(0, 5) + x.clock(2, 5), 2);
            Check.due("no link is left", x.unlink(0, 2), 0);
        });
        s.says("a link has a delay from 0 to 9 ticks, the same in both directions.", () -> {
            Twins.takes("link", Nets::rich, 0, 9, IllegalArgumentException.class, (x, v) -> x.link(0, 4, v));
            for (int delay = 0; delay <= 9; delay++) {
                bothWays(delay);
            }
        });
    }

    /** A pulse takes as long from 0 to 1 as from 1 to 0. */
    private static void bothWays(int delay) {
        for (int from = 0; from <= 1; from++) {
            int to = 1 - from;
            PulseClocks x = Check.withPhases(0, 0);
            x.setResponse(2, 1);
            x.setDrift(to, -1);
            x.blink(from, 99, 98);
            x.link(0, 1, delay);
            Check.due("linkOf(0, 1)", x.linkOf(0, 1), delay);
            Check.due("linkOf(1, 0)", x.linkOf(1, 0), delay);
            for (int n = 0; n <= 12; n++) {
                x.tick(1);
                Check.due("phase of " + to + ", " + n + " ticks behind the pulse, delay " + delay,
                    x.clock(to, 0), n >= delay ? 4 : 0);
            }
        }
    }

    private static void response(Sentences s) {
        s.in("RESPONSE");
        s.says("There is a window r from 0 to 99 (initially 0), a strength k from 0 to 32 (initially 4), "
            + "and a kind (initially 0).", () -> {
            int[] most = {99, 32, 2};
            int[] first = {0, 4, 0};
            for (int k = 0; k < 3; k++) {
                int what = k;
                Check.due("the first value of " + what, Nets.none().setResponse(what, 1), first[what]);
                Twins.takes("setResponse of " + what, Nets::rich, 0, most[what], IllegalArgumentException.class,
                    (x, v) -> x.setResponse(what, v));
            }
        });
        s.says("A pulse that reaches a good clock with the phase p has no effect if p is less than r,", () -> {
            for (int window = 0; window <= 99; window++) {
                for (int phase = 0; phase <= 98; phase++) {
                    Check.due("phase " + phase + " with the window " + window,
                        Nets.pushed(100, phase, window, 1, 1), phase < window ? phase : phase + 1);
                }
            }
            Check.due("P - 1 with the window P - 1", Nets.pushed(100, 99, 99, 1, 1), 1000);
            Check.due("P - 1 with the window P", Nets.pushed(40, 39, 40, 32, 1), 39);
        });
        s.says("or if the clock has fired already in this tick.", ClockTerms::firedAlready);
        s.says("Otherwise its phase becomes q, by the kind:", () -> {
            Check.due("kind 0", Nets.pushed(40, 20, 0, 8, 0), 20 + 10);
            Check.due("kind 1", Nets.pushed(40, 20, 0, 8, 1), 20 + 8);
            Check.due("kind 2", Nets.pushed(40, 20, 0, 8, 2), 20 + 5);
        });
        s.says("0: q = p + p * k / 16", () -> kind(0));
        s.says("1: q = p + k", () -> kind(1));
        s.says("2: q = p + p * p * k / (16 * P)", () -> kind(2));
        s.says("(quotients rounded down),", () -> {
            Check.due("1 + 15 / 16", Nets.pushed(40, 1, 0, 15, 0), 1);
            Check.due("1 + 16 / 16", Nets.pushed(40, 1, 0, 16, 0), 2);
            Check.due("1 + 31 / 16", Nets.pushed(40, 1, 0, 31, 0), 2);
            Check.due("3 + 9 * 17 / 160", Nets.pushed(10, 3, 0, 17, 2), 3);
            Check.due("3 + 9 * 18 / 160", Nets.pushed(10, 3, 0, 18, 2), 4);
            Check.due("39 + 1521 * 7 / 1600", Nets.pushed(100, 39, 0, 7, 2), 45);
        });
        s.says("and if q is P or more, the clock fires.", () -> {
            Check.due("q = P - 1 by kind 1", Nets.pushed(40, 30, 0, 9, 1), 39);
            Check.due("q = P by kind 1", Nets.pushed(40, 30, 0, 10, 1), 1000);
            Check.due("q = P + 1 by kind 1", Nets.pushed(40, 30, 0, 11, 1), 1000);
            Check.due("q = P - 1 by kind 0", Nets.pushed(40, 13, 0, 32, 0), 39);
            Check.due("q = P by kind 0", Nets.pushed(40, 32, 0, 4, 0), 1000);
            Check.due("q = P - 1 by kind 2", Nets.pushed(100, 57, 0, 21, 2), 57 + 42);
            Check.due("q = P by kind 2", Nets.pushed(100, 50, 0, 32, 2), 1000);
            Check.due("q = 3 * P - 3", Nets.pushed(100, 99, 0, 32, 0), 1000);
        });
    }

    private static void kind(int kind) {
        for (int period : new int[] {10, 37, 40, 100}) {
            for (int phase = 0; phase < period; phase++) {
                for (int k = 0; k <= 32; k++) {
                    int whole = 16 * period;
                    int more = kind == 0 ? (phase * k - phase * k % 16) / 16
                        : kind == 1 ? k : (phase * phase * k - phase * phase * k % whole) / whole;
                    int q = phase + more;
                    Check.due("period " + period + ", phase " + phase + ", strength " + k,
                        Nets.pushed(period, phase, 0, k, kind), q >= period ? 1000 : q);
                }
            }
        }
    }

    /** A second pulse would fire the clock again, whose phase is 0 by then: P is 10, and k is 32. */
    private static void firedAlready() {
        PulseClocks ripe = pushers(9, 0, 0);
        Check.due("fired in step 1, then pulses at once", ripe.tick(1), 3);
        Check.due("phase", ripe.clock(0, 0), 0);
        PulseClocks weak = pushers(9, 0, 0);
        weak.setResponse(1, 3);
        weak.tick(1);
        Check.due("fired in step 1, then weak pulses at once", weak.clock(0, 0), 0);
        PulseClocks late = pushers(8, 1, 0);
        Check.due("tick 1: a pulse at once fires it", late.tick(1), 3);
        late.setPhase(0, 9);
        Check.due("tick 2: fired in step 1, then a delayed pulse and one at once", late.tick(1), 3);
        Check.due("phase", late.clock(0, 0), 0);
        PulseClocks both = pushers(0, 1, 1);
        Check.due("tick 1: nothing has arrived", both.tick(1), 2);
        Check.due("tick 2: two delayed pulses, the first one fires it", both.tick(1), 3);
        Check.due("phase", both.clock(0, 0), 0);
        PulseClocks mixed = pushers(0, 1, 1);
        mixed.tick(1);
        mixed.link(0, 2, 0);
        Check.due("tick 2: a delayed pulse fires it, then one at once", mixed.tick(1), 3);
        Check.due("phase", mixed.clock(0, 0), 0);
    }

    private static PulseClocks pushers(int phase, int firstDelay, int secondDelay) {
        PulseClocks x = new PulseClocks();
        x.setPeriod(10);
        x.setResponse(1, 32);
        x.setResponse(2, 1);
        x.add(phase);
        x.add(0);
        x.add(0);
        x.blink(1, 1, 0);
        x.blink(2, 1, 0);
        x.link(0, 1, firstDelay);
        x.link(0, 2, secondDelay);
        return x;
    }

    private static void firing(Sentences s) {
        s.says("To fire means: the phase of a good clock becomes 0 (of a blinker it stays);", () -> {
            PulseClocks x = Check.withPhases(39, 39, 30, 5);
            x.setDrift(1, 1);
            x.setResponse(1, 32);
            x.blink(3, 1, 0);
            x.link(3, 2, 0);
            Check.due("all four fire", x.tick(1), 4);
            Check.due("at P in step 1", x.clock(0, 0), 0);
            Check.due("at P + 1 in step 1", x.clock(1, 0), 0);
            Check.due("beyond P by a pulse", x.clock(2, 0), 0);
            Check.due("the blinker", x.clock(3, 0), 5);
        });
        s.says("a pulse begins on each link of the clock, towards the clock at the other end.", () -> {
            PulseClocks x = Check.withPhases(0, 0, 0, 0, 39, 0, 0, 0, 0, 0);
            for (int c = 0; c < 10; c++) {
                if (c != 4) {
                    x.link(c, 4, c == 0 ? 9 : c);
                }
            }
            Check.due("tick(1)", x.tick(1), 1);
            Check.due("underWay()", x.underWay(), 9);
            for (int c = 0; c < 10; c++) {
                Check.due("to " + c, x.clock(c, 6), c == 4 ? 0 : 1);
            }
            PulseClocks alone = Check.withPhases(39, 0, 0);
            alone.link(1, 2, 5);
            Check.due("a clock without links fires", alone.tick(1), 1);
            Check.due("underWay()", alone.underWay(), 0);
        });
    }
}

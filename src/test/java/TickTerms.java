/** The terms TICKS and LOG, sentence by sentence. */
final class TickTerms {
    private static final int NONE = PulseClocks.NONE;

    private TickTerms() {
    }

    static void tell(Sentences s) {
        stepOne(s);
        stepTwo(s);
        stepThree(s);
        stepFour(s);
        pulsesUnderWay(s);
        log(s);
    }

    private static void stepOne(Sentences s) {
        s.in("TICKS");
        s.says("There is a tick counter t, initially 0.", () -> {
            Check.due("now()", Nets.none().now(), 0);
            Check.due("now() with clocks", Nets.row(3, 1).now(), 0);
        });
        s.says("In a tick t increases by 1, and then, in this order:", () -> {
            PulseClocks x = Check.withPhases(0);
            x.blink(0, 2, 1);
            for (int t = 1; t <= 9; t++) {
                // 1 + 1 is a multiple of 2 and 0 + 1 is not: so t increases before the blinker is looked at.
                Check.due("fires in tick " + t, x.tick(1), t % 2);
                Check.due("now()", x.now(), t);
            }
            PulseClocks order = Check.withPhases(38, 30, 0, 39, 38);
            order.setResponse(2, 1);
            order.blink(2, 1, 0);
            order.link(2, 1, 1);
            order.link(3, 0, 0);
            order.link(1, 4, 0);
            order.setResponse(1, 0);
            order.tick(1);
            order.setResponse(1, 32);
            order.setPhase(0, 38);
            order.setPhase(1, 30);
            order.setPhase(3, 39);
            order.setPhase(4, 38);
            order.tick(1);
            Twins.same("step 1, 2, 3, 4", Nets.order(order, 5), "32104");
        });
        s.says("1. The phase of each good clock increases by 1, by 2 if its drift is positive and t is a multiple of it, "
            + "by 0 if its drift is negative and t is a multiple of it.", () -> {
            for (int drift = -9; drift <= 9; drift++) {
                steps(drift);
            }
            PulseClocks ten = new PulseClocks();
            for (int c = 0; c < 10; c++) {
                ten.add(c);
            }
            ten.tick(1);
            for (int c = 0; c < 10; c++) {
                Check.due("phase of " + c, ten.clock(c, 0), c + 1);
            }
        });
        s.says("Then each good clock whose phase is P or more fires, in ascending order.", () -> {
            PulseClocks x = Check.withPhases(37, 38, 39, 37, 38, 39);
            for (int c = 3; c < 6; c++) {
                x.setDrift(c, 1);
            }
            Check.due("P, P and P + 1", x.tick(1), 3);
            Twins.same("they", Nets.order(x, 3), "245");
            Check.due("P - 1 stays", x.clock(1, 0), 39);
            Check.due("P - 1 with a drift stays", x.clock(3, 0), 39);
            Check.due("P - 2 stays", x.clock(0, 0), 38);
            PulseClocks ten = Check.withPhases(39, 39, 39, 39, 39, 39, 39, 39, 39, 39);
            Check.due("ten", ten.tick(1), 10);
            Twins.same("all ten", Nets.order(ten, 10), "0123456789");
        });
    }

    private static void steps(int drift) {
        PulseClocks x = new PulseClocks();
        x.setPeriod(100);
        x.add(0);
        x.setDrift(0, drift);
        for (int t = 1; t <= 49; t++) {
            x.tick(1);
            int multiples = drift == 0 ? 0 : t / Math.abs(drift);
            Check.due("phase with the drift " + drift + " after " + t + " ticks",
                x.clock(0, 0), t + (drift > 0 ? multiples : -multiples));
        }
    }

    private static void stepTwo(Sentences s) {
        s.says("2. Each blinker for which t + offset is a multiple of its rhythm fires, in ascending order.", () -> {
            for (int rhythm = 1; rhythm <= 99; rhythm++) {
                for (int offset : new int[] {0, 1, 2, rhythm - 1, rhythm, 49, 97, 98}) {
                    firesByRhythm(rhythm, Math.min(offset, 98));
                }
            }
            PulseClocks x = Nets.blinkers(10);
            Check.due("ten", x.tick(1), 10);
            Twins.same("all ten", Nets.order(x, 10), "0123456789");
            PulseClocks ripe = Check.withPhases(0, 39, 0, 39);
            ripe.blink(0, 1, 0);
            ripe.blink(2, 1, 0);
            ripe.tick(1);
            Twins.same("behind those of step 1", Nets.order(ripe, 4), "1302");
        });
    }

    private static void firesByRhythm(int rhythm, int offset) {
        PulseClocks x = Check.withPhases(0);
        x.blink(0, rhythm, offset);
        int first = 0;
        int fires = 0;
        for (int t = 198; t >= 1; t--) {
            if ((t + offset) % rhythm == 0) {
                first = t;
                fires++;
            }
        }
        String told = "rhythm " + rhythm + ", offset " + offset;
        Check.due("first fire with the " + told, x.firesIn(0, 400), first);
        Check.due("fires in 198 ticks with the " + told, x.tick(99) + x.tick(99), fires);
    }

    private static void stepThree(Sentences s) {
        s.says("3. Pulses that began on a link with a delay d > 0 in tick t - d reach the other clock,", () -> {
            for (int delay = 1; delay <= 9; delay++) {
                for (int began = 1; began <= 40; began++) {
                    arrives(delay, began);
                }
            }
        });
        s.says("the pulses ordered by the clock they reach, the lowest one first;", () -> {
            // All arrive in tick 10; the one to the highest clock began first.
            PulseClocks x = Check.withPhases(0, 0, 0, 0, 0, 0, 0, 0, 0, 0);
            x.setResponse(1, 32);
            x.setResponse(2, 1);
            x.blink(4, 99, 98);
            x.blink(3, 99, 96);
            x.blink(2, 99, 91);
            x.link(4, 9, 9);
            x.link(3, 5, 7);
            x.link(2, 0, 2);
            x.link(2, 1, 2);
            x.tick(9);
            Check.due("underWay()", x.underWay(), 4);
            Check.due("tick 10", x.tick(1), 4);
            Twins.same("the clocks that they fire", Nets.order(x, 4), "0159");
        });
        s.says("for the same clock they are all alike.", () -> {
            // Four pulses arrive at once at clock 2, from both sides of it and on links of four delays.
            PulseClocks x = Check.withPhases(0, 0, 0, 0, 0);
            x.setResponse(2, 1);
            for (int c = 0; c < 5; c++) {
                if (c != 2) {
                    x.blink(c, 20, 20 - 5 + c);
                    x.link(c, 2, c + 1);
                }
            }
            x.tick(5);
            Check.due("four are under way", x.clock(2, 6), 4);
            x.tick(1);
            Check.due("four pulses of 4", x.clock(2, 0), 6 + 16);
            Check.due("none is left", x.underWay(), 0);
        });
    }

    /** The arrival's tick runs over all places of a ring that an implementation could keep pulses in. */
    private static void arrives(int delay, int began) {
        PulseClocks x = Check.withPhases(0, 0);
        x.setResponse(2, 1);
        x.setDrift(1, -1);
        x.blink(0, 99, 99 - began);
        x.link(0, 1, delay);
        x.tick(began);
        String told = "delay " + delay + ", began in " + began;
        Check.due("under way, " + told, x.clock(1, 6), 1);
        if (delay > 1) {
            x.tick(delay - 1);
        }
        Check.due("phase before it arrives, " + told, x.clock(1, 0), 0);
        Check.due("under way still, " + told, x.clock(1, 6), 1);
        x.tick(1);
        Check.due("phase behind it, " + told, x.clock(1, 0), 4);
        Check.due("under way no more, " + told, x.clock(1, 6), 0);
        x.tick(20);
        Check.due("it reaches the clock once, " + told, x.clock(1, 0), 4);
    }

    private static PulseClocks strong(int... phases) {
        PulseClocks x = Check.withPhases(phases);
        x.setResponse(1, 10);
        x.setResponse(2, 1);
        return x;
    }

    private static void stepFour(Sentences s) {
        s.says("4. The clocks that have fired in this tick are gone through, in the order in which they fired:", () -> {
            // Clock 3 fires in step 1 and blinker 1 behind it, so 6, which 3 moves, comes before 4, which 1 moves.
            PulseClocks x = strong(0, 0, 0, 39, 35, 0, 35);
            x.blink(1, 1, 0);
            x.link(1, 4, 0);
            x.link(3, 6, 0);
            x.tick(1);
            Twins.same("order", Nets.order(x, 4), "3164");
        });
        s.says("for each one, and for each clock to which it has a link with delay 0, in ascending order, "
            + "a pulse reaches this clock.", () -> {
            PulseClocks x = strong(35, 35, 35, 35, 39, 35, 35, 35, 35, 35);
            for (int c = 9; c >= 0; c--) {
                if (c != 4) {
                    x.link(c, 4, c == 6 ? 1 : 0);
                }
            }
            Check.due("all but the one with a delay", x.tick(1), 9);
            Twins.same("order", Nets.order(x, 9), "401235789");
            Check.due("one is under way to it, and eight are not", x.clock(6, 6), 1);
            PulseClocks twice = strong(39, 39, 0);
            twice.link(0, 2, 0);
            twice.link(1, 2, 0);
            twice.tick(1);
            Check.due("a pulse from each of two", twice.clock(2, 0), 1 + 20);
        });
        s.says("Clocks that fire by that, or have fired in step 3, are gone through, too, behind those that fired before.",
            TickTerms::behindThoseBefore);
        s.says("So a clock fires at most once in a tick.", () -> {
            PulseClocks x = Nets.full();
            x.setPeriod(10);
            x.setResponse(1, 32);
            for (int c = 0; c < 9; c++) {
                x.link(c, c + 1, 0);
            }
            for (int n = 0; n < 30; n++) {
                int fires = x.tick(1);
                Check.due("fires of tick " + n, fires, Integer.bitCount(x.fired()));
                Check.due("notes of tick " + n, fires == 0 || x.noted(fires - 1, true) == x.now(), true);
                Check.due("no note more of tick " + n, x.noted(fires, true) == x.now(), false);
            }
        });
    }

    private static void behindThoseBefore() {
        PulseClocks row = strong(35, 35, 35, 35, 35, 35, 35, 35, 35, 39);
        for (int c = 0; c < 9; c++) {
            row.link(c, c + 1, 0);
        }
        Check.due("a row of ten in one tick", row.tick(1), 10);
        Twins.same("a row of ten", Nets.order(row, 10), "9876543210");
        PulseClocks wide = strong(39, 35, 35, 35);
        wide.link(0, 1, 0);
        wide.link(1, 3, 0);
        wide.link(0, 2, 0);
        wide.tick(1);
        Twins.same("1 and 2, and then what they move", Nets.order(wide, 4), "0123");
        PulseClocks lower = strong(35, 35, 39, 35);
        lower.link(2, 3, 0);
        lower.link(2, 1, 0);
        lower.link(1, 0, 0);
        lower.tick(1);
        Twins.same("a lower clock has its turn behind", Nets.order(lower, 4), "2130");
        // In tick 2 clock 1 fires by a delayed pulse, behind clock 4 and blinker 5, and moves 0 behind 2 and 3.
        PulseClocks late = strong(34, 33, 34, 34, 38, 0);
        late.blink(5, 1, 0);
        late.link(5, 1, 1);
        late.link(1, 0, 0);
        late.link(4, 3, 0);
        late.tick(1);
        late.link(5, 2, 0);
        late.tick(1);
        Twins.same("step 3", Nets.order(late, 6), "451320");
    }

    private static void pulsesUnderWay(Sentences s) {
        s.says("If a link is removed, or gets another delay, the pulses under way on it are gone.", () -> {
            for (int delay = 0; delay <= 9; delay++) {
                for (int ticks = 1; ticks <= 20; ticks++) {
                    gone(delay, ticks);
                }
            }
        });
        s.says("If a clock becomes a blinker or good, the pulses under way to it stay.", () -> {
            PulseClocks x = Check.withPhases(0, 0);
            x.setResponse(1, 1);
            x.setResponse(2, 1);
            x.blink(1, 1, 0);
            x.link(0, 1, 9);
            x.tick(9);
            Check.due("to a good clock", x.clock(0, 6), 9);
            x.blink(0, 99, 0);
            Check.due("it becomes a blinker", x.clock(0, 6), 9);
            x.blink(0, 98, 1);
            Check.due("it becomes another one", x.clock(0, 6), 9);
            x.mend(0);
            Check.due("it becomes good", x.clock(0, 6), 9);
            x.blink(1, 50, 0);
            Check.due("the clock that they come from becomes another blinker", x.clock(0, 6), 9);
            x.mend(1);
            Check.due("the clock that they come from becomes good", x.clock(0, 6), 9);
            x.blink(1, 99, 0);
            Check.due("the clock that they come from becomes a blinker", x.clock(0, 6), 9);
            x.tick(9);
            Check.due("they reach it", x.clock(0, 0), 9 + 9 + 9);
            Check.due("underWay()", x.underWay(), 0);
        });
    }

    /** Both directions of the link 0, 1 are full of pulses, and so are those of 0, 2 and 1, 2, which stay. */
    private static void gone(int delay, int ticks) {
        for (int other = -1; other <= 9; other++) {
            PulseClocks x = Nets.blinkers(3);
            x.link(0, 1, delay);
            x.link(0, 2, 9);
            x.link(1, 2, 5);
            x.tick(ticks);
            int rest = 2 * Math.min(ticks, 9) + 2 * Math.min(ticks, 5);
            int there = 2 * Math.min(ticks, delay);
            Check.due("underWay() before", x.underWay(), rest + there);
            if (other < 0) {
                x.unlink(0, 1);
            } else {
                x.link(1, 0, other);
            }
            Check.due("underWay() behind " + other, x.underWay(), rest + (other == delay ? there : 0));
            x.tick(1);
            int fresh = other == delay ? 2 * Math.min(ticks + 1, delay) : other > 0 ? 2 : 0;
            int later = 2 * Math.min(ticks + 1, 9) + 2 * Math.min(ticks + 1, 5);
            Check.due("underWay() a tick later", x.underWay(), later + fresh);
        }
    }

    private static void log(Sentences s) {
        s.in("LOG");
        s.says("Each clock that fires is noted, with the tick, in the order in which they fire.", () -> {
            PulseClocks x = Check.withPhases(38, 37, 0);
            x.blink(2, 3, 0);
            Check.due("tick(3)", x.tick(3), 3);
            int[] clock = {2, 1, 0, NONE};
            int[] tick = {3, 3, 2, NONE};
            for (int k = 0; k < 4; k++) {
                Check.due("clock of note " + k, x.noted(k, false), clock[k]);
                Check.due("tick of note " + k, x.noted(k, true), tick[k]);
            }
        });
        s.says("The latest 60 notes are kept.", () -> {
            PulseClocks x = Nets.blinkers(1);
            for (int t = 1; t <= 120; t++) {
                x.tick(1);
                Check.due("the latest after " + t, x.noted(0, true), t);
                Check.due("number 59 after " + t, x.noted(59, true), t >= 60 ? t - 59 : NONE);
                Check.due("number 60 after " + t, x.noted(60, true), NONE);
            }
            for (int count = 1; count <= 10; count++) {
                PulseClocks y = Nets.blinkers(count);
                y.tick(99);
                for (int k = 0; k < 60; k++) {
                    Check.due("tick of note " + k, y.noted(k, true), 99 - k / count);
                    Check.due("clock of note " + k, y.noted(k, false), count - 1 - k % count);
                }
                Check.due("number 60", y.noted(60, false), NONE);
            }
        });
    }
}

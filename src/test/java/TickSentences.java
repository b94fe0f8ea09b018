/** Promises 17 to 25, sentence by sentence. */
final class TickSentences {
    private static final int NONE = PulseClocks.NONE;
    private static final Class<IndexOutOfBoundsException> NO_CLOCK = IndexOutOfBoundsException.class;

    private TickSentences() {
    }

    static void tell(Sentences s) {
        tick(s);
        now(s);
        noted(s);
        fired(s);
        underWay(s);
        groups(s);
        group(s);
        groupOf(s);
        spread(s);
    }

    private static void tick(Sentences s) {
        s.in("Promise 17");
        s.says("Ticks go by.", () -> {
            // Twice forty ticks at once are as eighty single ones, but for the saved states.
            PulseClocks x = Nets.rich();
            PulseClocks y = Nets.rich();
            int fires = 0;
            for (int n = 0; n < 80; n++) {
                fires += y.tick(1);
            }
            Check.due("fires", x.tick(40) + x.tick(40), fires);
            x.tick(1);
            y.tick(1);
            x.tick(1);
            y.tick(1);
            Check.due("digest()", x.digest(), y.digest());
        });
        s.says("Undoable.", () -> {
            Twins.undoable("tick(1)", Nets::rich, x -> x.tick(1));
            Twins.undoable("tick(99)", Nets::full, x -> x.tick(99));
            Twins.undoable("tick(1) without clocks", Nets::none, x -> x.tick(1));
        });
        s.says("`n`: how many, 1 to 99", () -> {
            for (int n = 1; n <= 99; n++) {
                PulseClocks x = Nets.none();
                x.tick(n);
                Check.due("now()", x.now(), n);
            }
        });
        s.says("Returns how often clocks fired in them.", () -> {
            for (int count = 0; count <= 10; count++) {
                PulseClocks x = Nets.blinkers(count);
                Check.due("tick(1) of " + count + " blinkers", x.tick(1), count);
                Check.due("tick(99) of " + count + " blinkers", x.tick(99), 99 * count);
            }
            PulseClocks x = Check.withPhases(0);
            Check.due("before P", x.tick(39), 0);
            Check.due("at P", x.tick(1), 1);
            Check.due("twice", x.tick(80), 2);
        });
        s.says("Throws `IllegalArgumentException` if n is out of range", () -> {
            Twins.takes("tick", Nets::rich, 1, 99, IllegalArgumentException.class, PulseClocks::tick);
            Twins.takes("tick", Nets::none, 1, 99, IllegalArgumentException.class, PulseClocks::tick);
        });
    }

    private static void now(Sentences s) {
        s.in("Promise 18");
        s.says("Returns the tick counter.", () -> {
            PulseClocks x = Nets.none();
            Check.due("at first", x.now(), 0);
            int t = 0;
            for (int n = 1; n <= 99; n++) {
                x.tick(n);
                t += n;
                Check.due("now()", x.now(), t);
            }
        });
        s.says("Returns the tick counter.", () -> {
            PulseClocks x = Nets.rich();
            Check.due("now()", x.now(), 106);
            x.groupsAfter(400);
            Check.due("ticks in thought do not count", x.now(), 106);
            x.tick(99);
            x.undo();
            Check.due("nor those that were taken back", x.now(), 106);
        });
    }

    private static void noted(Sentences s) {
        s.in("Promise 19");
        s.says("Returns something about a note of the log.", () -> {
            PulseClocks x = Check.withPhases(39, 38);
            x.tick(2);
            Check.due("the clock", x.noted(0, false), 1);
            Twins.quiet("it", Nets::rich, y -> y.noted(3, true));
        });
        s.says("`k`: its number, from 0 for the latest one", () -> {
            PulseClocks x = Check.withPhases(39, 38, 37, 36);
            x.tick(4);
            for (int k = 0; k < 4; k++) {
                Check.due("clock of " + k, x.noted(k, false), 3 - k);
                Check.due("tick of " + k, x.noted(k, true), 4 - k);
            }
        });
        s.says("`tick`: true for the tick, false for the clock", () -> {
            PulseClocks x = Check.withPhases(0, 0, 0, 0, 0, 0, 0, 30);
            x.tick(10);
            Check.due("true", x.noted(0, true), 10);
            Check.due("false", x.noted(0, false), 7);
        });
        s.says("Returns that number; NONE if there is no such note.", () -> {
            for (int kept : new int[] {0, 1, 59, 60, 61, 130}) {
                PulseClocks x = Nets.blinkers(1);
                for (int n = 0; n < kept; n++) {
                    x.tick(1);
                }
                int there = Math.min(kept, 60);
                for (int k : Twins.numbersAround(0, 60)) {
                    boolean is = k >= 0 && k < there;
                    Check.due("tick of " + k + " of " + kept, x.noted(k, true), is ? kept - k : NONE);
                    Check.due("clock of " + k + " of " + kept, x.noted(k, false), is ? 0 : NONE);
                }
            }
        });
    }

    private static void fired(Sentences s) {
        s.in("Promise 20");
        s.says("Returns the set of the clocks that fired in the latest tick.", () -> {
            PulseClocks x = Check.withPhases(39, 38, 39, 30, 0);
            x.setResponse(1, 10);
            x.setResponse(2, 1);
            x.blink(4, 2, 1);
            x.link(0, 3, 0);
            x.tick(1);
            Check.due("ripe ones, a blinker, and by a pulse", x.fired(), 0b11101);
            x.tick(1);
            Check.due("the next tick", x.fired(), 0b00010);
            x.tick(1);
            Check.due("and the next one", x.fired(), 0b10000);
            x.setPhase(0, 5);
            x.add(3);
            Check.due("other calls do not change it", x.fired(), 0b10000);
            x.tick(1);
            Check.due("none fired", x.fired(), 0);
        });
        s.says("Returns an int in which bit k is 1 if clock k fired;", () -> {
            for (int c = 0; c < 10; c++) {
                PulseClocks x = Check.withPhases(0, 0, 0, 0, 0, 0, 0, 0, 0, 0);
                x.setPhase(c, 39);
                x.tick(1);
                Check.due("clock " + c + " alone", x.fired(), 1 << c);
            }
            PulseClocks all = Nets.blinkers(10);
            all.tick(1);
            Check.due("all ten", all.fired(), 1023);
        });
        s.says("0 before the first tick.", () -> {
            Check.due("a new object", Nets.none().fired(), 0);
            Check.due("blinkers", Nets.blinkers(10).fired(), 0);
            PulseClocks x = Nets.blinkers(1);
            x.tick(1);
            x.undo();
            Check.due("the first tick was taken back", x.fired(), 0);
        });
    }

    private static void underWay(Sentences s) {
        s.in("Promise 21");
        s.says("Counts the pulses that are under way.", () -> {
            for (int delay = 0; delay <= 9; delay++) {
                PulseClocks x = Nets.blinkers(2);
                x.link(0, 1, delay);
                for (int t = 1; t <= 35; t++) {
                    x.tick(1);
                    Check.due("delay " + delay + " in tick " + t, x.underWay(), 2 * Math.min(t, delay));
                }
            }
        });
        s.says("Returns the number of pulses.", () -> {
            Check.due("a new object", Nets.none().underWay(), 0);
            PulseClocks x = Nets.blinkers(10);
            for (int a = 0; a < 10; a++) {
                for (int b = 0; b < a; b++) {
                    x.link(a, b, 9);
                }
            }
            x.tick(40);
            Check.due("as many as there can be", x.underWay(), 2 * 45 * 9);
            PulseClocks full = Nets.full();
            int sum = 0;
            for (int c = 0; c < 10; c++) {
                sum += full.clock(c, 6);
            }
            Check.due("as many as to all clocks", full.underWay(), sum);
        });
    }

    private static void groups(Sentences s) {
        s.in("Promise 22");
        s.says("Returns the number of groups.", () -> {
            Check.due("no clocks", Nets.none().groups(), 0);
            PulseClocks x = new PulseClocks();
            for (int c = 0; c < 10; c++) {
                x.add(39 - c);
                Check.due("groups()", x.groups(), c + 1);
            }
            for (int c = 0; c < 10; c++) {
                x.setPhase(c, 7);
                Check.due("groups()", x.groups(), 10 - c);
            }
        });
        s.says("Returns the number of groups.", () -> {
            PulseClocks x = Check.withPhases(0, 39, 0, 39);
            Check.due("0 and P - 1", x.groups(), 2);
            x.blink(0, 9, 0);
            Check.due("0 has one more", x.groups(), 2);
            x.blink(2, 9, 0);
            Check.due("0 has blinkers alone", x.groups(), 1);
            x.blink(1, 9, 0);
            x.blink(3, 9, 0);
            Check.due("no good clocks", x.groups(), 0);
        });
    }

    private static void group(Sentences s) {
        s.in("Promise 23");
        s.rests("`index`: number of the group");
        s.says("Returns something about a group.", () -> {
            Check.due("its phase", Check.withPhases(13).group(0, true), 13);
            Twins.quiet("it", Nets::rich, x -> x.group(0, false));
        });
        s.says("`phase`: true for its phase, false for its clocks, as an int in which bit k stands for clock k", () -> {
            for (int c = 0; c < 10; c++) {
                PulseClocks x = Check.withPhases(20, 20, 20, 20, 20, 20, 20, 20, 20, 20);
                x.setPhase(c, 39);
                Check.due("the others' phase", x.group(0, true), 20);
                Check.due("the others", x.group(0, false), 1023 - (1 << c));
                Check.due("the phase P - 1", x.group(1, true), 39);
                Check.due("the one", x.group(1, false), 1 << c);
            }
        });
        s.says("Returns that number.", () -> {
            PulseClocks x = Check.withPhases(0, 0, 0, 0, 0, 0, 0, 0, 0, 0);
            Check.due("the phase 0", x.group(0, true), 0);
            Check.due("all ten", x.group(0, false), 1023);
            x.setPeriod(100);
            x.setPhase(9, 99);
            Check.due("the phase 99", x.group(1, true), 99);
            Check.due("clock 9", x.group(1, false), 512);
        });
        s.says("Throws `IndexOutOfBoundsException` if there is no such group", () -> {
            for (int count = 0; count <= 10; count++) {
                int groups = count;
                Twins.Maker maker = () -> {
                    PulseClocks x = new PulseClocks();
                    for (int c = 0; c < groups; c++) {
                        x.add(4 * c);
                    }
                    return x;
                };
                Twins.takes("group, true", maker, 0, groups - 1, NO_CLOCK, (x, v) -> x.group(v, true));
                Twins.takes("group, false", maker, 0, groups - 1, NO_CLOCK, (x, v) -> x.group(v, false));
            }
            Twins.noClock("blinkers alone", () -> Nets.blinkers(3), x -> x.group(0, true));
        });
    }

    private static void groupOf(Sentences s) {
        s.in("Promise 24");
        s.rests("`clock`: the clock");
        s.says("Returns the group of a clock.", () -> {
            PulseClocks x = Check.withPhases(39, 0, 39, 20, 0, 21);
            int[] want = {3, 0, 3, 1, 0, 2};
            for (int c = 0; c < 6; c++) {
                Check.due("groupOf(" + c + ")", x.groupOf(c), want[c]);
                Check.due("its phase", x.group(x.groupOf(c), true), x.clock(c, 0));
            }
        });
        s.says("Returns the number of the group; NONE if it is a blinker.", () -> {
            PulseClocks x = Check.withPhases(9, 8, 7, 6, 5, 4, 3, 2, 1, 0);
            for (int c = 0; c < 10; c++) {
                Check.due("groupOf(" + c + ")", x.groupOf(c), 9 - c);
            }
            for (int c = 9; c >= 0; c--) {
                x.blink(c, 9, 0);
                Check.due("a blinker", x.groupOf(c), NONE);
                Check.due("the highest phase", x.groupOf(0), c == 0 ? NONE : c - 1);
            }
            x.mend(4);
            Check.due("good again", x.groupOf(4), 0);
        });
        s.says("Throws `IndexOutOfBoundsException` if there is no such clock", () -> {
            Twins.takes("groupOf", Nets::rich, 0, 5, NO_CLOCK, PulseClocks::groupOf);
            Twins.takes("groupOf of ten", Nets::full, 0, 9, NO_CLOCK, PulseClocks::groupOf);
            Twins.noClock("without clocks", Nets::none, x -> x.groupOf(0));
        });
    }

    private static void spread(Sentences s) {
        s.in("Promise 25");
        s.says("Returns the spread of the good clocks.", () -> {
            PulseClocks x = Check.withPhases(38, 1, 20);
            Check.due("38, 1, 20", x.spread(), 21);
            x.blink(2, 9, 0);
            Check.due("20 is a blinker's", x.spread(), 3);
            x.blink(0, 9, 0);
            Check.due("1 alone", x.spread(), 0);
            x.blink(1, 9, 0);
            Check.due("no good clocks", x.spread(), 0);
        });
        s.says("Returns the spread.", () -> {
            for (int start = 0; start < 40; start++) {
                PulseClocks x = Check.withPhases(start, (start + 4) % 40, (start + 9) % 40, (start + 11) % 40);
                Check.due("from " + start + " on", x.spread(), 11);
            }
            Check.due("no clocks", Nets.none().spread(), 0);
            Check.due("one clock", Check.withPhases(39).spread(), 0);
        });
    }
}

/** Promises 1 to 10, sentence by sentence. */
final class ClockSentences {
    private static final int NONE = PulseClocks.NONE;
    private static final Class<IndexOutOfBoundsException> NO_CLOCK = IndexOutOfBoundsException.class;
    private static final Class<IllegalArgumentException> NO_ARGUMENT = IllegalArgumentException.class;

    private ClockSentences() {
    }

    static void tell(Sentences s) {
        aNewObject(s);
        add(s);
        setPhase(s);
        setDrift(s);
        blink(s);
        mend(s);
        link(s);
        linkRefused(s);
        unlink(s);
        setPeriod(s);
        setResponse(s);
    }

    private static void aNewObject(Sentences s) {
        s.in("Promise 1");
        s.says("Creates a network without clocks, with the initial numbers;", () -> {
            Check.due("clocks()", Nets.none().clocks(), 0);
            Check.due("components()", Nets.none().components(), 0);
            Check.due("groups()", Nets.none().groups(), 0);
            Check.due("now()", Nets.none().now(), 0);
            Check.due("fired()", Nets.none().fired(), 0);
            Check.due("underWay()", Nets.none().underWay(), 0);
            Check.due("spread()", Nets.none().spread(), 0);
            Twins.noClock("clock 0", Nets::none, x -> x.clock(0, 0));
            Check.due("the period", Nets.none().setPeriod(10), 40);
            Check.due("the window", Nets.none().setResponse(0, 1), 0);
            Check.due("the strength", Nets.none().setResponse(1, 1), 4);
            Check.due("the kind", Nets.none().setResponse(2, 1), 0);
            PulseClocks first = Nets.rich();
            long before = first.digest();
            PulseClocks second = new PulseClocks();
            Check.due("a second object has nothing of the first one", second.clocks() + second.now(), 0);
            second.add(1);
            second.tick(9);
            second.setPeriod(99);
            Check.due("nor the first one of the second", first.digest(), before);
        });
        s.says("the text is empty, nothing is noted or saved.", () -> {
            Check.due("clearText()", Nets.none().clearText(), 0);
            Check.due("execute()", Nets.none().execute(), 0);
            Check.due("noted(0, true)", Nets.none().noted(0, true), NONE);
            Check.due("noted(0, false)", Nets.none().noted(0, false), NONE);
            Twins.noState("undo()", Nets::none, x -> x.undo());
        });
    }

    private static void add(Sentences s) {
        s.in("Promise 2");
        s.says("Adds a good clock without links.", () -> {
            PulseClocks x = Nets.rich();
            int added = x.add(11);
            int[] want = {11, 0, 0, NONE, NONE, 0, 0};
            for (int what = 0; what <= 6; what++) {
                Check.due("clock(6, " + what + ")", x.clock(added, what), want[what]);
            }
            for (int c = 0; c <= 6; c++) {
                Check.due("linkOf(6, " + c + ")", x.linkOf(added, c), NONE);
            }
            // The number has been used before, by a clock that was taken back.
            PulseClocks again = Check.withPhases(5);
            again.add(39);
            again.setDrift(1, 5);
            again.link(0, 1, 7);
            again.blink(1, 1, 0);
            again.undo();
            again.undo();
            again.undo();
            again.undo();
            Check.due("it has the number again", again.add(11), 1);
            for (int what = 0; what <= 6; what++) {
                Check.due("clock(1, " + what + ") again", again.clock(1, what), want[what]);
            }
            afterThought(want);
        });
        s.says("Undoable.", () -> {
            Twins.undoable("add", Nets::rich, x -> x.add(0));
            Twins.undoable("add the first one", Nets::none, x -> x.add(39));
            PulseClocks x = Check.withPhases(0, 0, 0, 0, 0, 0, 0, 0, 0, 0);
            x.undo();
            Check.due("the tenth one taken back", x.clocks(), 9);
            Check.due("and added again", x.add(3), 9);
        });
        s.says("`phase`: its phase", () -> {
            for (int phase = 0; phase < 40; phase++) {
                Check.due("phase", Check.withPhases(phase).clock(0, 0), phase);
            }
        });
        s.says("Returns the number of the clock.", () -> {
            PulseClocks x = new PulseClocks();
            for (int c = 0; c < 10; c++) {
                Check.due("add", x.add(39 - c), c);
            }
        });
        s.says("Throws `IllegalArgumentException` if phase is not 0 to P - 1", () -> {
            Twins.takes("add", Nets::none, 0, 39, NO_ARGUMENT, PulseClocks::add);
            Twins.takes("add", Nets::rich, 0, 36, NO_ARGUMENT, PulseClocks::add);
            Twins.takes("add with P = 10", () -> withPeriod(10), 0, 9, NO_ARGUMENT, PulseClocks::add);
            Twins.takes("add with P = 100", () -> withPeriod(100), 0, 99, NO_ARGUMENT, PulseClocks::add);
        });
        s.says("Throws `IllegalStateException` if there are 10 clocks", () -> {
            Twins.noState("add(0)", Nets::full, x -> x.add(0));
            Twins.noState("add(39)", Nets::full, x -> x.add(39));
            PulseClocks x = Check.withPhases(0, 0, 0, 0, 0, 0, 0, 0, 0);
            Check.due("there are 9", x.add(0), 9);
        });
    }

    /** A query in thought has seen a clock 1 with a drift, a link and pulses, which was taken back then. */
    private static void afterThought(int[] want) {
        PulseClocks x = Check.withPhases(5, 39);
        x.setDrift(1, 5);
        x.blink(1, 1, 98);
        x.link(0, 1, 7);
        x.groupsAfter(4);
        for (int k = 0; k < 4; k++) {
            x.undo();
        }
        Check.due("a command adds it", Check.run(x, "a11;"), 1);
        for (int what = 0; what <= 6; what++) {
            Check.due("clock(1, " + what + ") by a command", x.clock(1, what), want[what]);
        }
        Check.due("linkOf(0, 1)", x.linkOf(0, 1), NONE);
    }

    private static PulseClocks withPeriod(int period) {
        PulseClocks x = new PulseClocks();
        x.setPeriod(period);
        return x;
    }

    private static void setPhase(Sentences s) {
        s.in("Promise 3");
        s.rests("`clock`: the clock");
        s.says("Sets the phase of a clock (good or not).", () -> {
            for (int c = 0; c < 6; c++) {
                PulseClocks x = Nets.rich();
                x.setPhase(c, 33);
                for (int other = 0; other < 6; other++) {
                    Check.due("phase of " + other, x.clock(other, 0), other == c ? 33 : Nets.rich().clock(other, 0));
                    Check.due("it stays good or not", x.clock(other, 2), other == 2 || other == 3 ? 1 : 0);
                }
            }
        });
        s.says("Undoable.", () -> {
            Twins.undoable("of a good clock", Nets::rich, x -> x.setPhase(0, 36));
            Twins.undoable("of a blinker", Nets::rich, x -> x.setPhase(2, 0));
        });
        s.says("`phase`: its phase", () -> {
            for (int phase = 0; phase < 37; phase++) {
                PulseClocks x = Nets.rich();
                x.setPhase(5, phase);
                Check.due("phase", x.clock(5, 0), phase);
            }
        });
        s.says("Returns the phase before.", () -> {
            PulseClocks x = Check.withPhases(39, 7);
            x.blink(1, 9, 0);
            Check.due("of P - 1", x.setPhase(0, 0), 39);
            Check.due("of 0", x.setPhase(0, 0), 0);
            Check.due("of 0 again", x.setPhase(0, 8), 0);
            Check.due("of a blinker", x.setPhase(1, 9), 7);
        });
        s.says("Throws `IndexOutOfBoundsException` if there is no such clock", () -> {
            Twins.takes("setPhase", Nets::rich, 0, 5, NO_CLOCK, (x, v) -> x.setPhase(v, 1));
            Twins.takes("setPhase of ten", Nets::full, 0, 9, NO_CLOCK, (x, v) -> x.setPhase(v, 1));
            Twins.noClock("without clocks", Nets::none, x -> x.setPhase(0, 1));
        });
        s.says("Throws `IllegalArgumentException` if phase is not 0 to P - 1", () -> {
            Twins.takes("setPhase", Nets::rich, 0, 36, NO_ARGUMENT, (x, v) -> x.setPhase(0, v));
            Twins.takes("setPhase of a blinker", Nets::rich, 0, 36, NO_ARGUMENT, (x, v) -> x.setPhase(2, v));
        });
    }

    private static void setDrift(Sentences s) {
        s.in("Promise 4");
        s.rests("`clock`: the clock");
        s.says("Sets the drift of a clock.", () -> {
            for (int c = 0; c < 6; c++) {
                PulseClocks x = Nets.rich();
                x.setDrift(c, -9);
                for (int other = 0; other < 6; other++) {
                    Check.due("drift of " + other, x.clock(other, 1), other == c ? -9 : Nets.rich().clock(other, 1));
                }
            }
        });
        s.says("Undoable.", () -> {
            Twins.undoable("of a good clock", Nets::rich, x -> x.setDrift(0, 9));
            Twins.undoable("of a blinker", Nets::rich, x -> x.setDrift(2, -9));
        });
        s.says("`drift`: its drift", () -> {
            for (int drift = -9; drift <= 9; drift++) {
                PulseClocks x = Check.withPhases(0);
                x.setDrift(0, drift);
                Check.due("drift", x.clock(0, 1), drift);
            }
        });
        s.says("Returns the drift before.", () -> {
            PulseClocks x = Check.withPhases(0, 0);
            x.blink(1, 9, 0);
            Check.due("of a new clock", x.setDrift(0, -9), 0);
            Check.due("of -9", x.setDrift(0, 9), -9);
            Check.due("of 9", x.setDrift(0, 9), 9);
            Check.due("of 9 again", x.setDrift(0, -1), 9);
            Check.due("of a blinker", x.setDrift(1, 3), 0);
            Check.due("of a blinker again", x.setDrift(1, 0), 3);
        });
        s.says("Throws `IndexOutOfBoundsException` if there is no such clock", () -> {
            Twins.takes("setDrift", Nets::rich, 0, 5, NO_CLOCK, (x, v) -> x.setDrift(v, 1));
            Twins.takes("setDrift of ten", Nets::full, 0, 9, NO_CLOCK, (x, v) -> x.setDrift(v, 1));
            Twins.noClock("without clocks", Nets::none, x -> x.setDrift(0, 1));
        });
        s.says("Throws `IllegalArgumentException` if drift is not -9 to 9", () -> {
            Twins.takes("setDrift", Nets::rich, -9, 9, NO_ARGUMENT, (x, v) -> x.setDrift(0, v));
            Twins.takes("setDrift of a blinker", Nets::rich, -9, 9, NO_ARGUMENT, (x, v) -> x.setDrift(2, v));
        });
    }

    private static void blink(Sentences s) {
        s.in("Promise 5");
        s.rests("`clock`: the clock");
        s.says("Makes a clock a blinker, or changes one.", () -> {
            PulseClocks x = Nets.rich();
            x.blink(0, 99, 98);
            Check.due("a blinker now", x.clock(0, 2), 1);
            Check.due("its phase stays", x.clock(0, 0), Nets.rich().clock(0, 0));
            Check.due("its drift stays", x.clock(0, 1), 3);
            x.blink(0, 1, 0);
            Check.due("a blinker still", x.clock(0, 2), 1);
            Check.due("its rhythm", x.clock(0, 3), 1);
            Check.due("its offset", x.clock(0, 4), 0);
            Check.due("the others stay", x.clock(1, 2) + 10 * x.clock(2, 3) + 100 * x.clock(3, 3), 750);
        });
        s.says("Undoable.", () -> {
            Twins.undoable("of a good clock", Nets::rich, x -> x.blink(0, 99, 98));
            Twins.undoable("of a blinker", Nets::rich, x -> x.blink(2, 1, 0));
        });
        s.says("`rhythm`: its rhythm", () -> {
            PulseClocks x = Nets.rich();
            for (int rhythm = 1; rhythm <= 99; rhythm++) {
                x.blink(4, rhythm, 50);
                Check.due("rhythm", x.clock(4, 3), rhythm);
            }
        });
        s.says("`offset`: its offset", () -> {
            PulseClocks x = Nets.rich();
            for (int offset = 0; offset <= 98; offset++) {
                x.blink(4, 50, offset);
                Check.due("offset", x.clock(4, 4), offset);
            }
        });
        s.says("Returns the number of blinkers afterwards.", () -> {
            PulseClocks x = Check.withPhases(0, 0, 0, 0, 0, 0, 0, 0, 0, 0);
            for (int c = 9; c >= 0; c--) {
                Check.due("one more", x.blink(c, 2, 0), 10 - c);
                Check.due("the same one", x.blink(c, 3, 1), 10 - c);
            }
            x.mend(4);
            Check.due("behind mend()", x.blink(5, 1, 0), 9);
        });
        s.says("Throws `IndexOutOfBoundsException` if there is no such clock", () -> {
            Twins.takes("blink", Nets::rich, 0, 5, NO_CLOCK, (x, v) -> x.blink(v, 1, 0));
            Twins.takes("blink of ten", Nets::full, 0, 9, NO_CLOCK, (x, v) -> x.blink(v, 1, 0));
            Twins.noClock("without clocks", Nets::none, x -> x.blink(0, 1, 0));
        });
        s.says("Throws `IllegalArgumentException` if rhythm is not 1 to 99, or offset not 0 to 98", () -> {
            for (int c : new int[] {1, 3}) {
                Twins.takes("rhythm", Nets::rich, 1, 99, NO_ARGUMENT, (x, v) -> x.blink(c, v, 98));
                Twins.takes("offset", Nets::rich, 0, 98, NO_ARGUMENT, (x, v) -> x.blink(c, 1, v));
            }
            Twins.noArgument("both", Nets::rich, x -> x.blink(1, 0, 99));
        });
    }

    private static void mend(Sentences s) {
        s.in("Promise 6");
        s.rests("`clock`: the clock");
        s.says("Makes a blinker good.", () -> {
            PulseClocks x = Nets.rich();
            x.mend(3);
            int[] want = {20, 2, 0, NONE, NONE, 1};
            for (int what = 0; what < want.length; what++) {
                Check.due("clock(3, " + what + ")", x.clock(3, what), want[what]);
            }
            Check.due("the other blinker stays", x.clock(2, 3), 5);
            Check.due("it is in a group again", x.groupOf(3) != NONE, true);
            x.setDrift(3, 0);
            x.tick(1);
            Check.due("its phase changes by ticks again", x.clock(3, 0) != 20, true);
        });
        s.says("Undoable.", () -> {
            Twins.undoable("of 2", Nets::rich, x -> x.mend(2));
            Twins.undoable("of 3", Nets::rich, x -> x.mend(3));
        });
        s.says("Returns the number of blinkers afterwards.", () -> {
            PulseClocks x = Nets.blinkers(10);
            for (int c = 0; c < 10; c++) {
                Check.due("one less", x.mend(c), 9 - c);
            }
        });
        s.says("Throws `IndexOutOfBoundsException` if there is no such clock", () -> {
            Twins.takes("mend", () -> Nets.blinkers(6), 0, 5, NO_CLOCK, PulseClocks::mend);
            Twins.takes("mend of ten", () -> Nets.blinkers(10), 0, 9, NO_CLOCK, PulseClocks::mend);
            Twins.noClock("without clocks", Nets::none, x -> x.mend(0));
        });
        s.says("Throws `IllegalStateException` if it is good", () -> {
            for (int c : new int[] {0, 1, 4, 5}) {
                Twins.noState("mend(" + c + ")", Nets::rich, x -> x.mend(c));
            }
            PulseClocks x = Nets.rich();
            x.mend(2);
            Check.noState(x, "mend(2) again", () -> x.mend(2));
        });
    }

    private static void link(Sentences s) {
        s.in("Promise 7");
        s.rests("`one`: a clock", "`other`: a clock");
        s.says("Links two clocks, or gives their link this delay", () -> {
            for (int a = 0; a < 10; a++) {
                for (int b = 0; b < 10; b++) {
                    if (a != b) {
                        PulseClocks x = Check.withPhases(0, 0, 0, 0, 0, 0, 0, 0, 0, 0);
                        x.link(a, b, 9);
                        Check.due("linkOf", x.linkOf(a, b), 9);
                        x.link(b, a, 0);
                        Check.due("the way back", x.linkOf(a, b) + x.linkOf(b, a), 0);
                        Check.due("one link", x.unlink(a, b), 0);
                    }
                }
            }
        });
        s.says("(pulses under way on it are gone only if the delay was another one).", () -> {
            for (int delay = 0; delay <= 9; delay++) {
                PulseClocks x = Nets.blinkers(2);
                x.link(0, 1, 4);
                x.tick(9);
                x.link(delay % 2, 1 - delay % 2, delay);
                Check.due("underWay() with " + delay + " instead of 4", x.underWay(), delay == 4 ? 8 : 0);
            }
            PulseClocks x = Nets.rich();
            PulseClocks y = Nets.rich();
            x.link(4, 2, 9);
            // It saves a state, too, and changes nothing.
            y.setPeriod(37);
            for (int n = 0; n < 12; n++) {
                x.tick(1);
                y.tick(1);
                Check.due("with the same delay, " + n + " ticks later", x.digest(), y.digest());
            }
        });
        s.says("Undoable.", () -> {
            Twins.undoable("a new link", Nets::rich, x -> x.link(0, 4, 3));
            Twins.undoable("another delay", Nets::rich, x -> x.link(2, 4, 0));
            Twins.undoable("the same delay", Nets::rich, x -> x.link(2, 4, 9));
        });
        s.says("`delay`: the delay", () -> {
            for (int delay = 0; delay <= 9; delay++) {
                PulseClocks x = Nets.blinkers(2);
                x.link(0, 1, delay);
                x.tick(20);
                Check.due("pulses to 0", x.clock(0, 6), delay);
                Check.due("pulses to 1", x.clock(1, 6), delay);
            }
        });
        s.says("Returns the delay before; NONE if there was no link.", () -> {
            PulseClocks x = Check.withPhases(0, 0, 0);
            Check.due("no link", x.link(0, 1, 0), NONE);
            for (int delay = 0; delay <= 9; delay++) {
                Check.due("before", x.link(1, 0, Math.min(delay + 1, 9)), delay);
            }
            x.unlink(0, 1);
            Check.due("no link again", x.link(0, 1, 5), NONE);
            Check.due("no link with 2", x.link(0, 2, 5), NONE);
        });
    }

    private static void linkRefused(Sentences s) {
        s.says("Throws `IndexOutOfBoundsException` if one of the clocks does not exist", () -> {
            // The number of the other end would be refused otherwise, so another one stands for it.
            Twins.takes("one", Nets::rich, 0, 4, NO_CLOCK, (x, v) -> x.link(v == 5 ? -1 : v, 5, 1));
            Twins.takes("other", Nets::rich, 0, 4, NO_CLOCK, (x, v) -> x.link(5, v == 5 ? 6 : v, 1));
            Twins.takes("one of ten", Nets::full, 1, 9, NO_CLOCK, (x, v) -> x.link(v == 0 ? 10 : v, 0, 1));
            Twins.noClock("both", Nets::rich, x -> x.link(6, 7, 1));
            Twins.noClock("without clocks", Nets::none, x -> x.link(0, 1, 1));
        });
        s.says("Throws `IllegalArgumentException` if both are the same, or delay is not 0 to 9", () -> {
            for (int c = 0; c < 6; c++) {
                int same = c;
                Twins.noArgument("both are " + c, Nets::rich, x -> x.link(same, same, 0));
            }
            Twins.takes("a new link", Nets::rich, 0, 9, NO_ARGUMENT, (x, v) -> x.link(0, 4, v));
            Twins.takes("a link that there is", Nets::rich, 0, 9, NO_ARGUMENT, (x, v) -> x.link(4, 2, v));
            Twins.noArgument("NONE as a delay", Nets::rich, x -> x.link(2, 4, NONE));
        });
    }

    private static void unlink(Sentences s) {
        s.in("Promise 8");
        s.rests("`one`: a clock", "`other`: a clock");
        s.says("Removes a link.", () -> {
            for (int way = 0; way <= 1; way++) {
                PulseClocks x = Nets.blinkers(3);
                x.link(0, 1, 0);
                x.link(1, 2, 9);
                x.tick(12);
                x.unlink(1 + way, 2 - way);
                Check.due("linkOf(1, 2)", x.linkOf(1, 2), NONE);
                Check.due("linkOf(2, 1)", x.linkOf(2, 1), NONE);
                Check.due("the other one stays", x.linkOf(0, 1), 0);
                Check.due("its pulses are gone", x.underWay(), 0);
                x.link(1, 2, 9);
                Check.due("they do not come back", x.underWay(), 0);
            }
        });
        s.says("Undoable.", () -> {
            Twins.undoable("with a delay", Nets::rich, x -> x.unlink(2, 4));
            Twins.undoable("without delay", Nets::rich, x -> x.unlink(5, 0));
        });
        s.says("Returns the number of links afterwards.", () -> {
            PulseClocks x = Nets.full();
            int links = 45;
            for (int a = 0; a < 10; a++) {
                for (int b = a + 1; b < 10; b++) {
                    links--;
                    Check.due("links", a % 2 == 0 ? x.unlink(a, b) : x.unlink(b, a), links);
                }
            }
        });
        s.says("Throws `IndexOutOfBoundsException` if one of the clocks does not exist", () -> {
            Twins.takes("one", () -> star(6), 0, 4, NO_CLOCK, (x, v) -> x.unlink(v == 5 ? -1 : v, 5));
            Twins.takes("other", () -> star(6), 0, 4, NO_CLOCK, (x, v) -> x.unlink(5, v == 5 ? 6 : v));
            Twins.takes("one of ten", () -> star(10), 0, 8, NO_CLOCK, (x, v) -> x.unlink(v == 9 ? 10 : v, 9));
            Twins.noClock("both", Nets::rich, x -> x.unlink(6, 7));
            Twins.noClock("without clocks", Nets::none, x -> x.unlink(0, 1));
        });
        s.says("Throws `IllegalStateException` if there is no link between them", () -> {
            Twins.noState("no link", Nets::rich, x -> x.unlink(0, 4));
            Twins.noState("no link, the other way", Nets::rich, x -> x.unlink(4, 0));
            for (int c = 0; c < 6; c++) {
                int same = c;
                Twins.noState("both are " + c, Nets::rich, x -> x.unlink(same, same));
            }
            PulseClocks x = Nets.rich();
            x.unlink(1, 2);
            Check.noState(x, "a link that was removed", () -> x.unlink(2, 1));
        });
    }

    /** The last clock is linked with all others. */
    private static PulseClocks star(int count) {
        PulseClocks x = new PulseClocks();
        for (int c = 0; c < count; c++) {
            x.add(c);
        }
        for (int c = 0; c < count - 1; c++) {
            x.link(c, count - 1, 1);
        }
        return x;
    }

    private static void setPeriod(Sentences s) {
        s.in("Promise 9");
        s.says("Sets the period;", () -> {
            for (int period = 10; period <= 100; period++) {
                PulseClocks x = Check.withPhases(0);
                x.setPeriod(period);
                x.tick(period - 1);
                Check.due("P - 1 is reached", x.clock(0, 0), period - 1);
                Check.due("P fires", x.tick(1), 1);
            }
        });
        s.says("phases (of all clocks, blinkers, too) that are too great then become their values modulo the period.", () -> {
            for (int period = 10; period <= 100; period++) {
                shrunk(period);
            }
        });
        s.says("Undoable.", () -> {
            Twins.undoable("smaller", Nets::rich, x -> x.setPeriod(10));
            Twins.undoable("greater", Nets::rich, x -> x.setPeriod(100));
            Twins.undoable("the same", Nets::rich, x -> x.setPeriod(37));
        });
        s.says("`period`: the new P", () -> {
            for (int period = 10; period <= 100; period++) {
                int p = period;
                PulseClocks x = withPeriod(p);
                Check.due("add(P - 1)", x.add(p - 1), 0);
                Check.noArgument(x, "add(P)", () -> x.add(p));
            }
        });
        s.says("Returns the period before.", () -> {
            PulseClocks x = new PulseClocks();
            Check.due("the first one", x.setPeriod(100), 40);
            for (int period = 99; period >= 10; period--) {
                Check.due("before " + period, x.setPeriod(period), period + 1);
            }
            Check.due("the same again", x.setPeriod(10), 10);
        });
        s.says("Throws `IllegalArgumentException` if period is not 10 to 100", () -> {
            Twins.takes("setPeriod", Nets::rich, 10, 100, NO_ARGUMENT, PulseClocks::setPeriod);
            Twins.takes("setPeriod", Nets::none, 10, 100, NO_ARGUMENT, PulseClocks::setPeriod);
        });
    }

    /** Ten phases, half of them of blinkers, around the new period and its multiples. */
    private static void shrunk(int period) {
        int[] phases = {99, period - 1, period % 100, (period + 1) % 100, 0, 98, (2 * period - 1) % 100, 2 * period % 100, 50, 9};
        PulseClocks x = withPeriod(100);
        for (int c = 0; c < 10; c++) {
            x.add(phases[c]);
            if (c % 2 == 1) {
                x.blink(c, 9, 0);
            }
        }
        x.setPeriod(period);
        for (int c = 0; c < 10; c++) {
            int phase = phases[c];
            while (phase >= period) {
                phase -= period;
            }
            Check.due("phase " + phases[c] + " with the period " + period, x.clock(c, 0), phase);
            phases[c] = phase;
        }
        x.setPeriod(100);
        for (int c = 0; c < 10; c++) {
            Check.due("phase with 100 again", x.clock(c, 0), phases[c]);
        }
    }

    private static void setResponse(Sentences s) {
        s.in("Promise 10");
        s.says("Changes the response.", () -> {
            PulseClocks x = pushedFrom20();
            Check.due("window 0, strength 4, kind 0", moved(x), 25);
            x.setResponse(1, 8);
            Check.due("strength 8", moved(x), 30);
            x.setResponse(2, 1);
            Check.due("kind 1", moved(x), 28);
            x.setResponse(2, 2);
            Check.due("kind 2", moved(x), 25);
            x.setResponse(0, 20);
            Check.due("window 20", moved(x), 25);
            x.setResponse(0, 21);
            Check.due("window 21", moved(x), 20);
        });
        s.says("Undoable.", () -> {
            Twins.undoable("the window", Nets::rich, x -> x.setResponse(0, 99));
            Twins.undoable("the strength", Nets::rich, x -> x.setResponse(1, 32));
            Twins.undoable("the kind", Nets::rich, x -> x.setResponse(2, 2));
            Twins.undoable("the same", Nets::rich, x -> x.setResponse(2, 0));
        });
        s.says("`what`: 0 the window, 1 the strength, 2 the kind", () -> {
            PulseClocks x = new PulseClocks();
            x.setResponse(0, 2);
            x.setResponse(1, 0);
            x.setResponse(2, 1);
            Check.due("the window alone is 2", x.setResponse(0, 0), 2);
            Check.due("the strength alone is 0", x.setResponse(1, 4), 0);
            Check.due("the kind alone is 1", x.setResponse(2, 0), 1);
            Twins.takes("what", Nets::rich, 0, 2, NO_ARGUMENT, (y, v) -> y.setResponse(v, 0));
            PulseClocks pushed = pushedFrom20();
            pushed.setResponse(0, 21);
            Check.due("0 is the window", moved(pushed), 20);
            pushed.setResponse(0, 0);
            pushed.setResponse(1, 16);
            Check.due("1 is the strength", moved(pushed), 1000);
            pushed.setResponse(2, 1);
            Check.due("2 is the kind", moved(pushed), 36);
        });
        s.says("`value`: the new value: 0 to 99, 0 to 32, or 0 to 2", () -> {
            int[] most = {99, 32, 2};
            for (int what = 0; what < 3; what++) {
                PulseClocks x = new PulseClocks();
                x.setResponse(what, 0);
                for (int value = 1; value <= most[what]; value++) {
                    Check.due("before " + value, x.setResponse(what, value), value - 1);
                }
            }
        });
        s.says("Returns the value before.", () -> {
            PulseClocks x = Nets.rich();
            Check.due("the window", x.setResponse(0, 99), 2);
            Check.due("the strength", x.setResponse(1, 32), 6);
            Check.due("the kind", x.setResponse(2, 2), 0);
            Check.due("the window again", x.setResponse(0, 99), 99);
            Check.due("the strength again", x.setResponse(1, 0), 32);
            Check.due("the kind again", x.setResponse(2, 2), 2);
        });
        s.says("Throws `IllegalArgumentException` if what or value is out of range", () -> {
            Twins.takes("what", Nets::rich, 0, 2, NO_ARGUMENT, (x, v) -> x.setResponse(v, 2));
            Twins.takes("the window", Nets::rich, 0, 99, NO_ARGUMENT, (x, v) -> x.setResponse(0, v));
            Twins.takes("the strength", Nets::rich, 0, 32, NO_ARGUMENT, (x, v) -> x.setResponse(1, v));
            Twins.takes("the kind", Nets::rich, 0, 2, NO_ARGUMENT, (x, v) -> x.setResponse(2, v));
            Twins.noArgument("both", Nets::rich, x -> x.setResponse(3, -1));
        });
    }

    /** Clock 1 stands still at 20, but for the pulses of blinker 0. */
    private static PulseClocks pushedFrom20() {
        PulseClocks x = Check.withPhases(0, 20);
        x.setDrift(1, -1);
        x.blink(0, 1, 0);
        x.link(0, 1, 0);
        return x;
    }

    /** Where the pulse of one tick moves clock 1 from 20, 1000 if it fires by it; it is put back then. */
    private static int moved(PulseClocks x) {
        int fires = x.tick(1);
        int phase = x.clock(1, 0);
        x.setPhase(1, 20);
        return fires == 2 && phase == 0 ? 1000 : phase;
    }
}

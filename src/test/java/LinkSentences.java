/** Promises 11 to 16, sentence by sentence. */
final class LinkSentences {
    private static final int NONE = PulseClocks.NONE;
    private static final Class<IndexOutOfBoundsException> NO_CLOCK = IndexOutOfBoundsException.class;

    private LinkSentences() {
    }

    static void tell(Sentences s) {
        clocks(s);
        clock(s);
        linkOf(s);
        distance(s);
        components(s);
        isNeeded(s);
    }

    private static void clocks(Sentences s) {
        s.in("Promise 11");
        s.says("Returns the number of clocks.", () -> {
            Check.due("clocks()", Nets.rich().clocks(), 6);
            PulseClocks x = Nets.rich();
            x.blink(0, 1, 0);
            Check.due("blinkers count, too", x.clocks(), 6);
            x.add(1);
            x.undo();
            Check.due("one that was taken back does not", x.clocks(), 6);
        });
        s.says("Returns 0 to 10.", () -> {
            PulseClocks x = new PulseClocks();
            for (int count = 0; count <= 10; count++) {
                Check.due("clocks()", x.clocks(), count);
                Check.thrown(() -> x.add(0));
            }
            Check.due("clocks() behind an add() that was refused", x.clocks(), 10);
        });
    }

    private static void clock(Sentences s) {
        s.in("Promise 12");
        s.rests("`clock`: the clock");
        s.says("Returns something about a clock.", () -> {
            Twins.quiet("it", Nets::rich, x -> {
                for (int what = 0; what <= 6; what++) {
                    x.clock(0, what);
                }
            });
        });
        s.says("`what`: 0 its phase, 1 its drift, 2 1 if it is a blinker, otherwise 0, 3 its rhythm and 4 its offset "
            + "(NONE if it is good), 5 the number of its links, 6 the number of pulses under way to it", () -> {
            PulseClocks x = new PulseClocks();
            x.setPeriod(100);
            int[] phases = {0, 99, 10, 20};
            for (int phase : phases) {
                x.add(phase);
            }
            x.setDrift(0, -9);
            x.setDrift(3, 9);
            x.blink(2, 1, 98);
            x.blink(3, 99, 0);
            x.link(0, 1, 9);
            x.link(2, 0, 9);
            x.link(3, 2, 1);
            // In tick 1 clock 1 and blinker 2 fire; in the ticks up to 9 blinker 2 alone does.
            x.tick(9);
            int[][] want = {
                {8, -9, 0, NONE, NONE, 2, 10},
                {8, 0, 0, NONE, NONE, 1, 0},
                {10, 0, 1, 1, 98, 2, 0},
                {20, 9, 1, 99, 0, 1, 1},
            };
            for (int c = 0; c < 4; c++) {
                for (int what = 0; what <= 6; what++) {
                    Check.due("clock(" + c + ", " + what + ")", x.clock(c, what), want[c][what]);
                }
            }
            Check.due("nine links", Nets.full().clock(9, 5), 9);
        });
        s.says("Returns that number.", () -> {
            PulseClocks x = Nets.blinkers(10);
            for (int c = 1; c < 10; c++) {
                x.link(0, c, 9);
            }
            x.tick(30);
            Check.due("pulses to the middle of a star", x.clock(0, 6), 81);
            Check.due("pulses to one at its end", x.clock(9, 6), 9);
            Check.due("links of the middle", x.clock(0, 5), 9);
            Check.due("links of one at its end", x.clock(9, 5), 1);
        });
        s.says("Throws `IndexOutOfBoundsException` if there is no such clock", () -> {
            for (int k = 0; k <= 6; k++) {
                int what = k;
                Twins.takes("clock(.., " + what + ")", Nets::rich, 0, 5, NO_CLOCK, (x, v) -> x.clock(v, what));
            }
            Twins.takes("clock of ten", Nets::full, 0, 9, NO_CLOCK, (x, v) -> x.clock(v, 0));
            Twins.noClock("without clocks", Nets::none, x -> x.clock(0, 0));
        });
        s.says("Throws `IllegalArgumentException` if what is out of range", () -> {
            for (int c = 0; c < 6; c++) {
                int clock = c;
                Twins.takes("what", Nets::rich, 0, 6, IllegalArgumentException.class, (x, v) -> x.clock(clock, v));
            }
        });
    }

    private static void linkOf(Sentences s) {
        s.in("Promise 13");
        s.rests("`one`: a clock", "`other`: a clock");
        s.says("Returns the delay of a link.", () -> {
            PulseClocks x = Nets.full();
            for (int a = 0; a < 10; a++) {
                for (int b = 0; b < a; b++) {
                    Check.due("linkOf(" + a + ", " + b + ")", x.linkOf(a, b), 1 + (3 * a + b) % 9);
                    Check.due("linkOf(" + b + ", " + a + ")", x.linkOf(b, a), 1 + (3 * a + b) % 9);
                }
            }
        });
        s.says("Returns the delay; NONE if there is no link between them (also if both are the same).", () -> {
            PulseClocks x = Nets.row(10, 0);
            for (int a = 0; a < 10; a++) {
                for (int b = 0; b < 10; b++) {
                    Check.due("linkOf(" + a + ", " + b + ")", x.linkOf(a, b), Math.abs(a - b) == 1 ? 0 : NONE);
                }
            }
        });
        s.says("Throws `IndexOutOfBoundsException` if one of the clocks does not exist", () -> {
            Twins.takes("one", Nets::rich, 0, 5, NO_CLOCK, (x, v) -> x.linkOf(v, 0));
            Twins.takes("other", Nets::rich, 0, 5, NO_CLOCK, (x, v) -> x.linkOf(0, v));
            Twins.takes("both the same", Nets::rich, 0, 5, NO_CLOCK, (x, v) -> x.linkOf(v, v));
            Twins.takes("one of ten", Nets::full, 0, 9, NO_CLOCK, (x, v) -> x.linkOf(v, 9));
            Twins.noClock("without clocks", Nets::none, x -> x.linkOf(0, 0));
        });
    }

    private static void distance(Sentences s) {
        s.in("Promise 14");
        s.rests("`one`: a clock", "`other`: a clock");
        s.says("Returns the smallest number of links by which one leads to the other.", () -> {
            PulseClocks ring = Nets.row(10, 9);
            ring.link(9, 0, 9);
            for (int a = 0; a < 10; a++) {
                for (int b = 0; b < 10; b++) {
                    int way = Math.abs(a - b);
                    Check.due("in a ring, " + a + " to " + b, ring.distance(a, b), Math.min(way, 10 - way));
                }
            }
            PulseClocks slow = Nets.row(4, 0);
            slow.link(0, 3, 9);
            Check.due("delays do not count", slow.distance(0, 3), 1);
            slow.blink(0, 1, 0);
            slow.blink(1, 1, 0);
            slow.unlink(0, 3);
            Check.due("over blinkers, too", slow.distance(0, 3), 3);
        });
        s.says("Returns the number, 0 if both are the same;", () -> {
            PulseClocks row = Nets.row(10, 0);
            for (int a = 0; a < 10; a++) {
                Check.due("to itself", row.distance(a, a), 0);
                for (int b = 0; b < 10; b++) {
                    Check.due("in a row, " + a + " to " + b, row.distance(a, b), Math.abs(a - b));
                }
            }
            Check.due("one clock", Nets.row(1, 0).distance(0, 0), 0);
        });
        s.says("NONE if there is no way.", () -> {
            PulseClocks x = Nets.row(10, 0);
            x.unlink(4, 5);
            for (int a = 0; a < 5; a++) {
                for (int b = 5; b < 10; b++) {
                    Check.due(a + " to " + b, x.distance(a, b), NONE);
                    Check.due(b + " to " + a, x.distance(b, a), NONE);
                }
            }
            Check.due("no links at all", Check.withPhases(1, 1).distance(0, 1), NONE);
        });
        s.says("Throws `IndexOutOfBoundsException` if one of the clocks does not exist", () -> {
            Twins.takes("one", Nets::rich, 0, 5, NO_CLOCK, (x, v) -> x.distance(v, 0));
            Twins.takes("other", Nets::rich, 0, 5, NO_CLOCK, (x, v) -> x.distance(0, v));
            Twins.takes("both the same", Nets::rich, 0, 5, NO_CLOCK, (x, v) -> x.distance(v, v));
            Twins.takes("one of ten", Nets::full, 0, 9, NO_CLOCK, (x, v) -> x.distance(v, 9));
            Twins.noClock("without clocks", Nets::none, x -> x.distance(0, 0));
        });
    }

    private static void components(Sentences s) {
        s.in("Promise 15");
        s.says("Counts the parts of the network: two clocks are in the same part if a way of links leads from one to the other.", () -> {
            // The row runs 0 5 1 6 2 7 3 8 4 9, so that ways go up and down.
            int[] row = {0, 5, 1, 6, 2, 7, 3, 8, 4, 9};
            PulseClocks x = Check.withPhases(0, 0, 0, 0, 0, 0, 0, 0, 0, 0);
            for (int k = 0; k < 9; k++) {
                Check.due("parts with " + k + " links", x.components(), 10 - k);
                x.link(row[k], row[k + 1], 9 - k);
            }
            Check.due("one part", x.components(), 1);
            x.link(0, 9, 0);
            Check.due("a ring", x.components(), 1);
            x.blink(5, 1, 0);
            x.blink(0, 1, 0);
            Check.due("blinkers lead on, too", x.components(), 1);
            Check.due("all linked with all", Nets.full().components(), 1);
        });
        s.says("Returns the number of parts;", () -> {
            for (int count = 1; count <= 10; count++) {
                PulseClocks x = new PulseClocks();
                for (int c = 0; c < count; c++) {
                    x.add(0);
                }
                Check.due("without links", x.components(), count);
                Check.due("in a row", Nets.row(count, 3).components(), 1);
            }
        });
        s.says("0 without clocks.", () -> Check.due("components()", Nets.none().components(), 0));
    }

    private static void isNeeded(Sentences s) {
        s.in("Promise 16");
        s.rests("`clock`: the clock");
        s.says("Tells whether the network without a clock and its links would have more parts than it has.", () -> {
            PulseClocks row = Nets.row(10, 0);
            for (int c = 0; c < 10; c++) {
                Check.due(c + " in a row", row.isNeeded(c), c > 0 && c < 9);
            }
            row.link(9, 0, 0);
            for (int c = 0; c < 10; c++) {
                Check.due(c + " in a ring", row.isNeeded(c), false);
            }
            // Two rings that share clock 2.
            PulseClocks eight = Nets.row(5, 0);
            eight.link(0, 2, 0);
            eight.link(2, 4, 0);
            for (int c = 0; c < 5; c++) {
                Check.due(c + " in two rings", eight.isNeeded(c), c == 2);
            }
            eight.blink(2, 1, 0);
            Check.due("a blinker", eight.isNeeded(2), true);
        });
        s.says("Returns true if it would.", () -> {
            Check.due("a clock alone", Nets.row(1, 0).isNeeded(0), false);
            PulseClocks apart = Check.withPhases(0, 0, 0);
            Check.due("a clock without links leaves fewer", apart.isNeeded(1), false);
            Check.due("one of two", Nets.row(2, 0).isNeeded(0), false);
            Check.due("the middle of three", Nets.row(3, 0).isNeeded(1), true);
            apart.link(0, 1, 0);
            Check.due("as many parts as before", apart.isNeeded(0), false);
            apart.link(1, 2, 0);
            Check.due("one more part", apart.isNeeded(1), true);
        });
        s.says("Throws `IndexOutOfBoundsException` if there is no such clock", () -> {
            Twins.takes("isNeeded", Nets::rich, 0, 5, NO_CLOCK, PulseClocks::isNeeded);
            Twins.takes("isNeeded of ten", Nets::full, 0, 9, NO_CLOCK, PulseClocks::isNeeded);
            Twins.noClock("without clocks", Nets::none, x -> x.isNeeded(0));
        });
    }
}

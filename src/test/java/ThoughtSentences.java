/** Promises 26 to 33, sentence by sentence. */
final class ThoughtSentences {
    private static final int NONE = PulseClocks.NONE;
    private static final Class<IndexOutOfBoundsException> NO_CLOCK = IndexOutOfBoundsException.class;
    private static final Class<IllegalArgumentException> NO_ARGUMENT = IllegalArgumentException.class;
    private static final String LIMIT = "`limit`: the greatest number of ticks, 1 to 400";
    private static final String LIMIT_REFUSED = "Throws `IllegalArgumentException` if limit is out of range";
    private static final String CLOCK_REFUSED = "Throws `IndexOutOfBoundsException` if there is no such clock";

    private ThoughtSentences() {
    }

    static void tell(Sentences s) {
        ticksUntil(s);
        groupsAfter(s);
        repeats(s);
        leastStrength(s);
        basin(s);
        worstPhase(s);
        blamed(s);
        firesIn(s);
    }

    /**
     * Clocks 0 and 2 stand still, at 60 and at 0; blinker 1 fires in the ticks 99, 198, 297 and 396, and each
     * pulse moves clock 0 by 10: it fires in the tick 396 + delay, and is in one group with 2 from then on.
     */
    private static PulseClocks late(int delay) {
        PulseClocks x = new PulseClocks();
        x.setPeriod(100);
        x.setResponse(1, 10);
        x.setResponse(2, 1);
        x.add(60);
        x.add(5);
        x.add(0);
        for (int c = 0; c < 3; c++) {
            x.setDrift(c, -1);
        }
        x.blink(1, 99, 0);
        x.link(0, 1, delay);
        return x;
    }

    /** Clock 0 stands still at this phase, and clock 1 runs from 0 on: they meet after so many ticks. */
    private static PulseClocks meeting(int phase) {
        PulseClocks x = Check.withPhases(phase, 0);
        x.setDrift(0, -1);
        return x;
    }

    /** Two clocks that count to 10, quick to think about. */
    private static PulseClocks small() {
        PulseClocks x = new PulseClocks();
        x.setPeriod(10);
        x.add(3);
        x.add(7);
        x.link(0, 1, 1);
        x.blink(1, 4, 0);
        x.tick(3);
        return x;
    }

    private static void ticksUntil(Sentences s) {
        s.in("Promise 26");
        s.says("Returns the smallest number of ticks, from 1 on, after which there are at most so many groups.", () -> {
            for (int phase = 1; phase < 40; phase++) {
                Check.due("they meet at " + phase, meeting(phase).ticksUntil(1, 400), phase);
            }
            Check.due("together now, they meet in a round", meeting(0).ticksUntil(1, 400), 40);
            Check.due("at most two are there after 1 tick", meeting(9).ticksUntil(2, 400), 1);
            Check.due("fewer than so many", meeting(9).ticksUntil(3, 400), 1);
            PulseClocks three = meeting(9);
            three.add(1);
            Check.due("three come to two, clock 2 first", three.ticksUntil(2, 400), 8);
            Check.due("three never come to one", three.ticksUntil(1, 400), NONE);
            PulseClocks one = Check.withPhases(5, 5);
            Check.due("one group all the time", one.ticksUntil(1, 400), 1);
        });
        s.says("`groups`: the number of groups, 0 to 10", () -> {
            PulseClocks ten = Check.withPhases(0, 1, 2, 3, 4, 5, 6, 7, 8, 9);
            Check.due("10", ten.ticksUntil(10, 400), 1);
            Check.due("9", ten.ticksUntil(9, 400), NONE);
            Check.due("0 with good clocks", ten.ticksUntil(0, 400), NONE);
            Check.due("0 without clocks", Nets.none().ticksUntil(0, 1), 1);
            Check.due("0 with blinkers alone", Nets.blinkers(3).ticksUntil(0, 400), 1);
        });
        s.says(LIMIT, () -> {
            Check.due("1", Nets.none().ticksUntil(0, 1), 1);
            for (int delay = 0; delay <= 9; delay++) {
                Check.due("396 + " + delay, late(delay).ticksUntil(1, 400), delay <= 4 ? 396 + delay : NONE);
            }
        });
        s.says("Returns the number of ticks; NONE if there is none up to limit.", () -> {
            for (int limit = 1; limit <= 30; limit++) {
                Check.due("17 with the limit " + limit, meeting(17).ticksUntil(1, limit), limit >= 17 ? 17 : NONE);
            }
            Check.due("never", Check.withPhases(1, 2).ticksUntil(1, 400), NONE);
        });
        s.says("Throws `IllegalArgumentException` if groups or limit is out of range", () -> {
            Twins.takes("groups", Nets::rich, 0, 10, NO_ARGUMENT, (x, v) -> x.ticksUntil(v, 400));
            Twins.takes("groups without clocks", Nets::none, 0, 10, NO_ARGUMENT, (x, v) -> x.ticksUntil(v, 1));
            Twins.takes("limit", ThoughtSentences::small, 1, 400, NO_ARGUMENT, (x, v) -> x.ticksUntil(0, v));
            Twins.noArgument("both", Nets::rich, x -> x.ticksUntil(11, 401));
        });
    }

    private static void groupsAfter(Sentences s) {
        s.in("Promise 27");
        s.says("Returns the number of groups after some ticks.", () -> {
            for (int n = 1; n <= 60; n++) {
                Check.due("after " + n, meeting(17).groupsAfter(n), n == 17 || n == 57 ? 1 : 2);
            }
        });
        s.says("`n`: the number of ticks, 1 to 400", () -> {
            Check.due("1", meeting(1).groupsAfter(1), 1);
            Check.due("399", late(4).groupsAfter(399), 2);
            Check.due("400", late(4).groupsAfter(400), 1);
            Check.due("400 is one too few", late(5).groupsAfter(400), 2);
        });
        s.says("Returns the number of groups.", () -> {
            Check.due("no clocks", Nets.none().groupsAfter(400), 0);
            Check.due("blinkers alone", Nets.blinkers(10).groupsAfter(1), 0);
            Check.due("ten", Check.withPhases(0, 1, 2, 3, 4, 5, 6, 7, 8, 9).groupsAfter(400), 10);
        });
        s.says("Throws `IllegalArgumentException` if n is out of range", () -> {
            Twins.takes("n", ThoughtSentences::small, 1, 400, NO_ARGUMENT, PulseClocks::groupsAfter);
            Twins.takes("n", Nets::none, 1, 400, NO_ARGUMENT, PulseClocks::groupsAfter);
        });
    }

    /** The rhythms 17 and 23 are alike again after 391 ticks; two other blinkers fill their link in 9 ticks. */
    private static PulseClocks long400() {
        PulseClocks x = Nets.blinkers(4);
        x.blink(2, 17, 0);
        x.blink(3, 23, 0);
        x.link(0, 1, 9);
        return x;
    }

    private static void repeats(Sentences s) {
        s.in("Promise 28");
        s.says("Lets ticks go by until a situation is alike one that was there before", () -> {
            for (int delay = 0; delay <= 9; delay++) {
                PulseClocks x = Nets.blinkers(2);
                x.link(0, 1, delay);
                Check.due("the link has to be full, " + delay, x.repeats(400, true), delay);
                Check.due("then all is alike, " + delay, x.repeats(400, false), 1);
            }
            Check.due("the earlier one of 9 and 400", long400().repeats(400, true), 9);
            Check.due("the first round, not the second", Check.withPhases(5).repeats(400, false), 40);
        });
        s.says("(the present one is the first one).", () -> {
            Check.due("no clocks", Nets.none().repeats(400, true), 0);
            Check.due("no clocks", Nets.none().repeats(400, false), 1);
            Check.due("no clocks and one tick", Nets.none().repeats(1, false), 1);
            PulseClocks x = Check.withPhases(5);
            x.tick(13);
            Check.due("the present one comes again", x.repeats(400, true), 0);
            Check.due("after a round", x.repeats(40, false), 40);
            PulseClocks y = Nets.blinkers(2);
            y.link(0, 1, 1);
            Check.due("the present one, without pulses, is one of its own", y.repeats(400, true), 1);
            y.tick(1);
            Check.due("the present one has the pulses by now", y.repeats(400, true), 0);
        });
        s.says(LIMIT, () -> {
            Check.due("9 + 391 is 400", long400().repeats(400, false), 391);
            Check.due("and beyond 399", long400().repeats(399, false), NONE);
            Check.due("and beyond 399", long400().repeats(399, true), NONE);
            PulseClocks x = new PulseClocks();
            x.setPeriod(100);
            x.add(0);
            x.add(0);
            x.blink(1, 80, 0);
            Check.due("0 + 400", x.repeats(400, true), 0);
            Check.due("0 + 400", x.repeats(400, false), 400);
            Check.due("399 are too few", x.repeats(399, false), NONE);
            x.blink(1, 81, 0);
            Check.due("8100 ticks", x.repeats(400, false), NONE);
        });
        s.says("`first`: true for the number of ticks until the earlier one of both situations, "
            + "false for the number of ticks from the earlier one to the later one", () -> {
            PulseClocks x = Nets.blinkers(2);
            x.link(0, 1, 9);
            x.blink(0, 5, 0);
            // From 5 on there is a pulse of blinker 0, from 10 on there are two or one, and 1's fill the link in 9.
            Check.due("true", x.repeats(400, true), 9);
            Check.due("false", x.repeats(400, false), 5);
        });
        s.says("Returns that number; NONE if no situation repeats itself up to limit.", () -> {
            PulseClocks x = Nets.blinkers(2);
            x.link(0, 1, 9);
            x.blink(0, 5, 0);
            for (int limit = 1; limit <= 20; limit++) {
                Check.due("true, limit " + limit, x.repeats(limit, true), limit >= 14 ? 9 : NONE);
                Check.due("false, limit " + limit, x.repeats(limit, false), limit >= 14 ? 5 : NONE);
            }
        });
        s.says(LIMIT_REFUSED, () -> {
            Twins.takes("true", ThoughtSentences::small, 1, 400, NO_ARGUMENT, (x, v) -> x.repeats(v, true));
            Twins.takes("false", Nets::none, 1, 400, NO_ARGUMENT, (x, v) -> x.repeats(v, false));
        });
    }

    /** Clock 1 fires in tick 1, and by that clock 0, if its phase then, with the strength, is 40 or more. */
    private static PulseClocks pair(int phase, int strength) {
        PulseClocks x = Check.withPhases(phase, 39);
        x.link(0, 1, 0);
        x.setResponse(1, strength);
        x.setResponse(2, 1);
        return x;
    }

    private static void leastStrength(Sentences s) {
        s.in("Promise 29");
        s.says("Finds the smallest strength with which there would be at most one group after some number of ticks "
            + "from 1 to limit.", () -> {
            for (int phase = 7; phase <= 39; phase++) {
                Check.due("from " + phase, pair(phase, 4).leastStrength(1), 39 - phase);
            }
            Check.due("one group all the time", Check.withPhases(5, 5).leastStrength(400), 0);
            Check.due("the strength that is there does not count", pair(20, 32).leastStrength(1), 19);
            Check.due("no good clocks", Nets.blinkers(2).leastStrength(1), 0);
            PulseClocks now = Check.withPhases(0, 0);
            now.setDrift(0, -1);
            Check.due("the present groups do not count", now.leastStrength(39), NONE);
            Check.due("but those after 40 ticks", now.leastStrength(40), 0);
        });
        s.says(LIMIT, () -> {
            Check.due("400 with 10", late(4).leastStrength(400), 10);
            Check.due("399 with 14, which needs three pulses", late(4).leastStrength(399), 14);
            Check.due("401 are too many", late(5).leastStrength(400), 14);
            Check.due("1", pair(38, 4).leastStrength(1), 1);
        });
        s.says("Returns the strength, 0 to 32; NONE if there is none.", () -> {
            Check.due("0", pair(39, 32).leastStrength(1), 0);
            Check.due("32", pair(7, 4).leastStrength(1), 32);
            Check.due("33 would be needed", pair(6, 4).leastStrength(1), NONE);
            Check.due("no link", Check.withPhases(3, 4).leastStrength(400), NONE);
        });
        s.says(LIMIT_REFUSED, () -> {
            Twins.takes("limit", ThoughtSentences::small, 1, 400, NO_ARGUMENT, PulseClocks::leastStrength);
            Twins.takes("limit", Nets::none, 1, 400, NO_ARGUMENT, PulseClocks::leastStrength);
        });
    }

    private static void basin(Sentences s) {
        s.in("Promise 30");
        s.rests("`clock`: the clock");
        s.says("Counts the phases which a clock could have (everything else being as it is) so that there would be at "
            + "most one group after some number of ticks from 1 to limit.", () -> {
            for (int strength = 0; strength <= 32; strength++) {
                Check.due("strength " + strength, pair(20, strength).basin(0, 1), strength + 1);
            }
            Check.due("of the one that fires: 20 itself", pair(20, 0).basin(1, 400), 1);
            // Clock 0 stands still at 17: clock 1 meets it in 5 ticks from 12 to 16, not from 17 itself.
            Check.due("the present groups do not count", meeting(17).basin(1, 5), 5);
            Check.due("40 ticks are a round", meeting(17).basin(1, 40), 40);
            Check.due("39 ticks are not", meeting(17).basin(1, 39), 39);
            PulseClocks third = pair(20, 32);
            third.add(3);
            Check.due("everything else is as it is", third.basin(0, 1), 0);
        });
        s.says(LIMIT, () -> {
            Check.due("60 to 99, and 0", late(4).basin(0, 400), 41);
            Check.due("70 to 99, and 0", late(4).basin(0, 399), 31);
            Check.due("70 to 99, and 0", late(5).basin(0, 400), 31);
        });
        s.says("Returns the number of phases, 0 to P.", () -> {
            PulseClocks two = Check.withPhases(1, 2, 3);
            Check.due("none", two.basin(0, 400), 0);
            for (int period : new int[] {10, 40, 100}) {
                PulseClocks x = new PulseClocks();
                x.setPeriod(period);
                x.add(1);
                Check.due("all", x.basin(0, 1), period);
                x.add(1);
                x.blink(0, 9, 0);
                Check.due("all of a blinker", x.basin(0, 1), period);
                x.add(2);
                Check.due("none of a blinker", x.basin(0, 1), 0);
            }
        });
        s.says(CLOCK_REFUSED, () -> {
            Twins.takes("clock", ThoughtSentences::small, 0, 1, NO_CLOCK, (x, v) -> x.basin(v, 5));
            Twins.takes("clock of ten", Nets::full, 0, 9, NO_CLOCK, (x, v) -> x.basin(v, 5));
            Twins.noClock("without clocks", Nets::none, x -> x.basin(0, 5));
        });
        s.says(LIMIT_REFUSED, () ->
            Twins.takes("limit", ThoughtSentences::small, 1, 400, NO_ARGUMENT, (x, v) -> x.basin(0, v)));
    }

    private static void worstPhase(Sentences s) {
        s.in("Promise 31");
        s.rests("`clock`: the clock");
        s.says("Finds the phase which a clock could have so that ticksUntil(1, limit) would be as great as possible,", () -> {
            for (int phase = 0; phase < 40; phase++) {
                // From the phase itself clock 1 needs a round of 40 ticks, from all others less.
                Check.due("clock 0 stands still at " + phase, meeting(phase).worstPhase(1, 400), phase);
            }
            Check.due("the last phase, too", meeting(39).worstPhase(1, 40), 39);
            // Clock 1 runs on from 30: it meets clock 0 at 30 after 40 ticks, at 29 after 39.
            PulseClocks x = meeting(5);
            x.setPhase(1, 30);
            Check.due("of the one that stands still", x.worstPhase(0, 400), 30);
        });
        s.says("where NONE counts as greater than all numbers;", () -> {
            // Up to 39 ticks from 20 there is no meeting; all others meet, the one from 21 in 39 ticks.
            Check.due("20 alone has NONE", meeting(20).worstPhase(1, 39), 20);
            Check.due("39 alone has NONE", meeting(39).worstPhase(1, 39), 39);
            // Up to 10 ticks the phases 10 to 19 meet 20, and 0 to 9 do not.
            Check.due("NONE from 0 on", meeting(20).worstPhase(1, 10), 0);
            // Up to 20 ticks 0 meets 20 as the latest, but 20 itself and those above it do not.
            Check.due("NONE from 20 on", meeting(20).worstPhase(1, 20), 20);
        });
        s.says("of several the lowest one.", () -> {
            Check.due("all meet after 1 tick", Check.withPhases(7).worstPhase(0, 400), 0);
            Check.due("none ever does", Check.withPhases(7, 8, 9).worstPhase(0, 400), 0);
            Check.due("all but 0 have NONE", Check.withPhases(7, 0).worstPhase(0, 400), 1);
            PulseClocks blinker = meeting(9);
            blinker.add(3);
            blinker.blink(2, 9, 0);
            Check.due("a blinker's are all alike", blinker.worstPhase(2, 400), 0);
        });
        s.says(LIMIT, () -> {
            // From 0 clock 0 comes to 48, where 2 stands, by four pulses of 12; from 1 it never does.
            for (int delay = 0; delay <= 9; delay++) {
                PulseClocks x = late(delay);
                x.setResponse(1, 12);
                x.setPhase(2, 48);
                Check.due("0 comes after 396 + " + delay, x.worstPhase(0, 400), delay <= 4 ? 1 : 0);
            }
            Check.due("1", meeting(1).worstPhase(1, 1), 1);
        });
        s.says("Returns the phase.", () -> {
            PulseClocks x = new PulseClocks();
            x.setPeriod(100);
            x.add(99);
            x.add(0);
            x.setDrift(0, -1);
            Check.due("P - 1", x.worstPhase(1, 400), 99);
            Check.due("0", meeting(0).worstPhase(1, 400), 0);
            Check.due("P is none", Nets.longestFromP().worstPhase(0, 400), 0);
        });
        s.says(CLOCK_REFUSED, () -> {
            Twins.takes("clock", ThoughtSentences::small, 0, 1, NO_CLOCK, (x, v) -> x.worstPhase(v, 5));
            Twins.takes("clock of ten", Nets::full, 0, 9, NO_CLOCK, (x, v) -> x.worstPhase(v, 5));
            Twins.noClock("without clocks", Nets::none, x -> x.worstPhase(0, 5));
        });
        s.says(LIMIT_REFUSED, () ->
            Twins.takes("limit", ThoughtSentences::small, 1, 400, NO_ARGUMENT, (x, v) -> x.worstPhase(0, v)));
    }

    private static void blamed(Sentences s) {
        s.in("Promise 32");
        s.says("Finds the lowest blinker with which, if it alone were made good", () -> {
            for (int lowest = 1; lowest < 10; lowest++) {
                PulseClocks x = Check.withPhases(7, 7, 7, 7, 7, 7, 7, 7, 7, 7);
                for (int c = 1; c < 10; c++) {
                    x.setPhase(c, c < lowest ? 8 : 7);
                    x.blink(c, 99, 0);
                }
                Check.due("the lowest is " + lowest, x.blamed(1), lowest);
            }
            PulseClocks good = Check.withPhases(7, 7, 8);
            good.blink(2, 99, 0);
            Check.due("good clocks are not blamed", good.blamed(400), NONE);
        });
        s.says("(with the phase that it has; all other blinkers stay),", () -> {
            for (int phase = 0; phase < 40; phase++) {
                PulseClocks x = Check.withPhases(phase, phase, (phase + 1) % 40);
                x.blink(1, 99, 0);
                x.blink(2, 99, 0);
                Check.due("1 has the phase " + phase + " and 2 another one", x.blamed(1), 1);
                x.setPhase(1, (phase + 2) % 40);
                Check.due("1 has another one, too", x.blamed(1), NONE);
            }
            // Clock 0 fires by blinker 1 at 99 and comes to 2, which stands still at 0, if 1 stays a blinker.
            PulseClocks push = Check.withPhases(39, 5, 0, 0);
            for (int c = 0; c < 4; c++) {
                push.setDrift(c, -1);
            }
            push.link(0, 1, 0);
            push.setResponse(1, 32);
            push.blink(1, 99, 0);
            push.blink(3, 99, 0);
            Check.due("blinker 1 has to stay, 3 need not", push.blamed(99), 3);
            Check.due("before 1 fires there are two groups", push.blamed(98), NONE);
        });
        s.says("there would be at most one group after some number of ticks from 1 to limit.", () -> {
            PulseClocks x = meeting(17);
            x.blink(0, 99, 0);
            for (int limit = 1; limit <= 30; limit++) {
                Check.due("17 with the limit " + limit, x.blamed(limit), limit >= 17 ? 0 : NONE);
            }
            PulseClocks none = Check.withPhases(7);
            none.blink(0, 99, 0);
            Check.due("a blinker alone", none.blamed(1), 0);
        });
        s.says(LIMIT, () -> {
            for (int delay = 0; delay <= 9; delay++) {
                PulseClocks x = late(delay);
                x.blink(2, 50, 0);
                Check.due("396 + " + delay, x.blamed(400), delay <= 4 ? 2 : NONE);
            }
        });
        s.says("Returns the blinker; NONE if there is none.", () -> {
            Check.due("no clocks", Nets.none().blamed(400), NONE);
            Check.due("no blinkers", Check.withPhases(7, 7).blamed(400), NONE);
            Check.due("one group, and no blinkers", Check.withPhases(7).blamed(1), NONE);
            PulseClocks x = Check.withPhases(7, 8, 9);
            x.blink(2, 99, 0);
            Check.due("it does not help", x.blamed(400), NONE);
            Check.due("ten blinkers", Nets.blinkers(10).blamed(1), 0);
        });
        s.says(LIMIT_REFUSED, () -> {
            Twins.takes("limit", ThoughtSentences::small, 1, 400, NO_ARGUMENT, PulseClocks::blamed);
            Twins.takes("limit without blinkers", () -> Nets.row(2, 1), 1, 400, NO_ARGUMENT, PulseClocks::blamed);
        });
    }

    private static void firesIn(Sentences s) {
        s.in("Promise 33");
        s.rests("`clock`: the clock");
        s.says("Returns the number of ticks after which a clock fires next.", () -> {
            for (int phase = 0; phase < 40; phase++) {
                Check.due("from " + phase, Check.withPhases(phase).firesIn(0, 400), 40 - phase);
            }
            PulseClocks x = Check.withPhases(39, 20);
            x.setResponse(1, 32);
            x.link(0, 1, 3);
            Check.due("by a delayed pulse: 24 + 48", x.firesIn(1, 400), 4);
            PulseClocks y = Check.withPhases(39);
            y.tick(1);
            Check.due("not the latest tick, but the next time", y.firesIn(0, 400), 40);
            y.blink(0, 9, 0);
            Check.due("a blinker", y.firesIn(0, 400), 8);
        });
        s.says(LIMIT, () -> {
            for (int delay = 0; delay <= 9; delay++) {
                Check.due("396 + " + delay, late(delay).firesIn(0, 400), delay <= 4 ? 396 + delay : NONE);
            }
            Check.due("1", Check.withPhases(39).firesIn(0, 1), 1);
        });
        s.says("Returns the number of ticks, from 1 on; NONE if it does not fire up to limit.", () -> {
            Check.due("1", Check.withPhases(39).firesIn(0, 400), 1);
            for (int limit = 1; limit <= 30; limit++) {
                Check.due("17 with the limit " + limit, Check.withPhases(23).firesIn(0, limit), limit >= 17 ? 17 : NONE);
            }
            Check.due("never", meeting(39).firesIn(0, 400), NONE);
        });
        s.says(CLOCK_REFUSED, () -> {
            Twins.takes("clock", ThoughtSentences::small, 0, 1, NO_CLOCK, (x, v) -> x.firesIn(v, 5));
            Twins.takes("clock of ten", Nets::full, 0, 9, NO_CLOCK, (x, v) -> x.firesIn(v, 5));
            Twins.noClock("without clocks", Nets::none, x -> x.firesIn(0, 5));
        });
        s.says(LIMIT_REFUSED, () ->
            Twins.takes("limit", ThoughtSentences::small, 1, 400, NO_ARGUMENT, (x, v) -> x.firesIn(0, v)));
    }
}

import java.math.BigInteger;

/** Promises 34 to 38, sentence by sentence. */
final class TextSentences {
    private TextSentences() {
    }

    static void tell(Sentences s) {
        append(s);
        clearText(s);
        execute(s);
        executeReturns(s);
        undo(s);
        digest(s);
    }

    private static void append(Sentences s) {
        s.in("Promise 34");
        s.says("Appends a byte to the text.", () -> {
            PulseClocks x = new PulseClocks();
            String text = "a12;";
            for (int k = 0; k < text.length(); k++) {
                x.append(text.charAt(k));
                Check.due("behind byte " + k, x.execute(), k < 3 ? -10 - k - 1 : 1);
            }
            Check.due("they stand in this order", x.clock(0, 0), 12);
            Check.due("it is not undoable", Twins.saved(Nets::rich, y -> y.append('t')), 3);
        });
        s.says("`value`: the byte, 0 to 127", () -> {
            for (int value = 0; value <= 127; value++) {
                PulseClocks x = new PulseClocks();
                Check.due("append(" + value + ")", x.append(value), 1);
                Check.due("execute() of " + value, x.execute(), "aplbt".indexOf(value) >= 0 ? -11 : -10);
            }
        });
        s.says("Returns the length of the text afterwards.", () -> {
            PulseClocks x = new PulseClocks();
            for (int length = 1; length <= 100; length++) {
                Check.due("append", x.append(0), length);
            }
            x.clearText();
            Check.due("behind clearText()", x.append(0), 1);
        });
        s.says("Throws `IllegalArgumentException` if value is out of range", () -> {
            Twins.takes("append", Nets::rich, 0, 127, IllegalArgumentException.class, PulseClocks::append);
            Twins.takes("append to 99 bytes", () -> Nets.withText("x".repeat(99)), 0, 127,
                IllegalArgumentException.class, PulseClocks::append);
        });
        s.says("Throws `IllegalStateException` if the text has 100 bytes", () -> {
            for (int value : new int[] {0, 1, ';', 127}) {
                Twins.noState("append(" + value + ")", () -> Nets.withText("t1;".repeat(33) + "t"), x -> x.append(value));
            }
            PulseClocks x = Nets.withText("t1;".repeat(33));
            Check.due("to 99 bytes", x.append('t'), 100);
            Check.noState(x, "to 100 bytes", () -> x.append('2'));
            Check.due("it has 100 bytes", x.clearText(), 100);
        });
    }

    private static void clearText(Sentences s) {
        s.in("Promise 35");
        s.says("Empties the text.", () -> {
            PulseClocks x = Nets.withText("t5;?");
            Check.due("execute() before", x.execute(), -13);
            x.clearText();
            Check.due("execute() of nothing", x.execute(), 0);
            x.append('t');
            Check.due("the old bytes do not come back", x.execute(), -11);
            Check.due("it is not undoable", Twins.saved(Nets::rich, y -> y.clearText()), 3);
        });
        s.says("Returns the length that it had.", () -> {
            for (int length = 0; length <= 100; length++) {
                PulseClocks x = Nets.withText("x".repeat(length));
                Check.due("clearText()", x.clearText(), length);
                Check.due("clearText() again", x.clearText(), 0);
            }
        });
    }

    /** The rich network with another text. */
    private static PulseClocks rich(String text) {
        PulseClocks x = Nets.rich();
        x.clearText();
        Nets.type(x, text);
        return x;
    }

    private static void execute(Sentences s) {
        s.in("Promise 36");
        s.says("Executes the text as commands, one after the other, each one like the method.", () -> {
            PulseClocks x = rich("a5;l6,0,3;t9;p6,36;b1,2,1;t1;l6,0,2;t30;a17;");
            PulseClocks y = rich("a5;l6,0,3;t9;p6,36;b1,2,1;t1;l6,0,2;t30;a17;");
            Check.due("execute()", x.execute(), 9);
            y.add(5);
            y.link(6, 0, 3);
            y.tick(9);
            y.setPhase(6, 36);
            y.blink(1, 2, 1);
            y.tick(1);
            y.link(6, 0, 2);
            y.tick(30);
            y.add(17);
            for (int n = 0; n < 12; n++) {
                // The saved states are four in both of them by then.
                x.tick(1);
                y.tick(1);
                Check.due("digest() " + n + " ticks later", x.digest(), y.digest());
            }
        });
        s.says("If one of them would throw an exception, nothing changes at all.", () -> {
            String[] refused = {
                "a37;", "p6,0;", "p0,37;", "l6,0,1;", "l0,6,1;", "l0,0,1;", "l0,1,10;", "b6,1,0;", "b0,0,0;", "b0,1,99;", "t0;",
            };
            for (String command : refused) {
                Twins.quiet(command, () -> rich(command), x -> Check.due(command, x.execute(), -1000));
                String behind = "t9;a5;p0,1;l0,1,1;b0,2,1;t9;" + command + "t5;";
                Twins.quiet(behind, () -> rich(behind), x -> {
                    int answer = x.execute();
                    boolean stands = command.equals("p6,0;") || command.equals("l6,0,1;") || command.equals("l0,6,1;")
                        || command.equals("b6,1,0;");
                    // A clock 6 is there by then.
                    Check.due(behind, answer, stands ? 8 : -1006);
                    if (stands) {
                        x.undo();
                    }
                });
            }
        });
        s.says("The text stays.", () -> {
            PulseClocks x = Nets.withText("t3;t4;");
            for (int k = 1; k <= 10; k++) {
                Check.due("execute()", x.execute(), 2);
                Check.due("now()", x.now(), 7 * k);
            }
            Check.due("clearText()", x.clearText(), 6);
            Nets.type(x, "t0;");
            Check.due("a command is refused", x.execute(), -1000);
            Check.due("the text stays", x.execute(), -1000);
            Check.due("clearText()", x.clearText(), 3);
            Nets.type(x, "t1");
            Check.due("a syntax error", x.execute(), -12);
            Check.due("append() behind it", x.append(';'), 3);
            Check.due("execute()", x.execute(), 1);
        });
        s.says("Undoable if all commands are executed (one saved state for all of them, also if there are none).", () -> {
            Twins.undoable("three commands", Nets::rich, x -> x.execute());
            Twins.undoable("none", () -> rich(""), x -> x.execute());
            Twins.undoable("33 commands", () -> Nets.withText("t1;".repeat(33)), x -> x.execute());
            Twins.undoable("six commands", () -> rich("t1;t1;t1;t1;t1;t1;"), x -> x.execute());
            for (String text : new String[] {"t0;", "t1;t0;", "t1", "?", "t1;t1;t1;t"}) {
                Check.due("saved by '" + text + "'", Twins.saved(() -> rich(text), x -> x.execute()), 3);
            }
        });
    }

    private static void executeReturns(Sentences s) {
        s.says("Returns the number of commands;", () -> {
            for (int count = 0; count <= 33; count++) {
                Check.due(count + " commands", Check.run(new PulseClocks(), "t1;".repeat(count)), count);
            }
            Check.due("of the longest kind", Check.run(Nets.full(), "l00,01,02;".repeat(10)), 10);
        });
        s.says("-10 minus the syntax error position if there is a syntax error;", () -> {
            for (int length = 0; length <= 99; length += 3) {
                Check.due("at " + length, Check.run(new PulseClocks(), "t1;".repeat(length / 3) + "?"), -10 - length);
            }
            Check.due("at 100", Check.run(new PulseClocks(), "t1;".repeat(33) + "t"), -110);
            Check.due("it goes before a command that would throw", Check.run(new PulseClocks(), "t0;?"), -13);
            Check.due("that of an end, too", Check.run(new PulseClocks(), "t0;t"), -14);
            Twins.quiet("a syntax error", () -> rich("t9;a1;p0,3"), x -> x.execute());
        });
        s.says("-1000 minus the index of the first command (from 0) that would throw an exception.", () -> {
            for (int before = 0; before <= 32; before++) {
                String text = "t1;".repeat(before) + "t0;" + "t0;".repeat(32 - before);
                Check.due(before + " commands before it", Check.run(new PulseClocks(), text), -1000 - before);
            }
            Check.due("the eleventh clock", Check.run(new PulseClocks(), "a1;".repeat(12)), -1010);
            Check.due("a clock that is not there yet", Check.run(new PulseClocks(), "a1;p1,1;a1;"), -1001);
            Check.due("a clock that is there by then", Check.run(new PulseClocks(), "a1;a1;p1,1;"), 3);
        });
    }

    private static void undo(Sentences s) {
        s.in("Promise 37");
        s.says("Restores the state that was saved last and removes it from the saved ones.", () -> {
            PulseClocks x = new PulseClocks();
            for (int k = 1; k <= 3; k++) {
                x.tick(k);
            }
            int[] now = {3, 1, 0};
            for (int k = 0; k < 3; k++) {
                x.undo();
                Check.due("now()", x.now(), now[k]);
            }
            x.tick(7);
            x.undo();
            x.tick(8);
            x.undo();
            Check.due("there and back again", x.now(), 0);
            Check.noState(x, "none is left", () -> x.undo());
            Twins.undoable("all at once", Nets::full, y -> y.tick(99));
        });
        s.says("Returns the number of states that are still saved.", () -> {
            for (int calls = 1; calls <= 8; calls++) {
                PulseClocks x = new PulseClocks();
                for (int k = 0; k < calls; k++) {
                    x.tick(1);
                }
                for (int left = Math.min(calls, 4) - 1; left >= 0; left--) {
                    Check.due("undo() behind " + calls + " calls", x.undo(), left);
                }
            }
        });
        s.says("Throws `IllegalStateException` if no state is saved", () -> {
            Twins.noState("a new object", Nets::none, x -> x.undo());
            Twins.noState("all are undone", () -> {
                PulseClocks x = Nets.rich();
                x.undo();
                x.undo();
                x.undo();
                return x;
            }, x -> x.undo());
            Twins.noState("a text alone", () -> Nets.withText("a1;"), x -> x.undo());
            PulseClocks x = new PulseClocks();
            Check.thrown(() -> x.tick(0));
            Check.noState(x, "behind a call that was refused", () -> x.undo());
        });
    }

    private static long hash(long... values) {
        long h = 1858;
        for (long v : values) {
            h = 31 * h + v;
        }
        return h;
    }

    private static BigInteger exactHash(int... values) {
        BigInteger h = BigInteger.valueOf(1858);
        for (int v : values) {
            h = h.multiply(BigInteger.valueOf(31)).add(BigInteger.valueOf(v));
        }
        return h;
    }

    private static void digest(Sentences s) {
        s.in("Promise 38");
        s.says("Returns a hash of the state.", () -> {
            Twins.quiet("it", Nets::rich, x -> x.digest());
            PulseClocks x = Nets.rich();
            long before = x.digest();
            Check.due("again", x.digest(), before);
            x.tick(1);
            Check.due("another state has another one", x.digest() == before, false);
            x.undo();
            Check.due("undone", x.digest(), before);
        });
        s.says("Start with h = 1858 and, for each of the following values v, set h = 31 * h + v:", () ->
            Check.due("a new object", Nets.none().digest(), hash(40, 0, 4, 0, 0, 0, 0, 0, 0, 0, 0, 0)));
        s.says("P, the window, the strength, the kind, now();", () -> {
            PulseClocks x = new PulseClocks();
            x.setPeriod(100);
            x.setResponse(0, 99);
            x.setResponse(1, 32);
            x.setResponse(2, 2);
            x.tick(98);
            Check.due("digest()", x.digest(), hash(100, 99, 32, 2, 98, 0, 0, 0, 0, 0, 0, 4));
        });
        s.says("clocks(), and for each clock the values of clock() for what = 0 to 6, and linkOf() to each clock, "
            + "in ascending order;", () -> {
            PulseClocks x = Check.withPhases(3, 7, 11);
            x.setDrift(0, -9);
            x.blink(1, 99, 98);
            x.link(0, 1, 9);
            x.link(2, 0, 0);
            Check.due("digest()", x.digest(), hash(40, 0, 4, 0, 0, 3,
                3, -9, 0, -1, -1, 2, 0, -1, 9, 0,
                7, 0, 1, 99, 98, 1, 0, 9, -1, -1,
                11, 0, 0, -1, -1, 1, 0, 0, -1, -1,
                0, 0, 2, 3, 1, 11, 4, 8, 0, 4));
        });
        s.says("fired(); underWay();", () -> {
            PulseClocks x = Check.withPhases(5, 39);
            x.link(0, 1, 9);
            x.tick(1);
            Check.due("digest()", x.digest(), hash(40, 0, 4, 0, 1, 2,
                6, 0, 0, -1, -1, 1, 1, -1, 9,
                0, 0, 0, -1, -1, 1, 0, 9, -1,
                2, 1, 2, 0, 2, 6, 1, 6, 1, 1, 0, 4));
        });
        s.says("groups(), and for each group its phase and its clocks; spread();", () -> {
            PulseClocks x = Check.withPhases(39, 0, 39);
            Check.due("digest()", x.digest(), hash(40, 0, 4, 0, 0, 3,
                39, 0, 0, -1, -1, 0, 0, -1, -1, -1,
                0, 0, 0, -1, -1, 0, 0, -1, -1, -1,
                39, 0, 0, -1, -1, 0, 0, -1, -1, -1,
                0, 0, 2, 0, 2, 39, 5, 1, 0, 3));
        });
        s.says("for each note, the latest first, its tick and its clock;", () -> {
            for (int ticks : new int[] {1, 59, 60, 61, 99}) {
                PulseClocks x = Nets.blinkers(1);
                x.tick(ticks);
                long h = hash(40, 0, 4, 0, ticks, 1, 0, 0, 1, 1, 0, 0, 0, -1, 1, 0, 0, 0);
                for (int k = 0; k < Math.min(ticks, 60); k++) {
                    h = 31 * (31 * h + ticks - k);
                }
                Check.due("digest() with " + ticks + " notes", x.digest(), 31 * (31 * h) + 3);
            }
        });
        s.says("the length of the text; the number of saved states.", () -> {
            for (int length = 0; length <= 100; length++) {
                PulseClocks x = Nets.withText("x".repeat(length));
                Check.due("digest()", x.digest(), hash(40, 0, 4, 0, 0, 0, 0, 0, 0, 0, length, 0));
            }
            for (int calls = 1; calls <= 6; calls++) {
                PulseClocks x = new PulseClocks();
                for (int k = 0; k < calls; k++) {
                    x.setPeriod(40);
                }
                Check.due("digest()", x.digest(), hash(40, 0, 4, 0, 0, 0, 0, 0, 0, 0, 0, Math.min(calls, 4)));
            }
        });
        s.says("Returns the hash, with the overflow of long arithmetic ignored.", () -> {
            int below = 0;
            for (int length = 0; length <= 99; length++) {
                PulseClocks x = Check.withPhases(39);
                Nets.type(x, "x".repeat(length));
                BigInteger exact = exactHash(40, 0, 4, 0, 0, 1, 39, 0, 0, -1, -1, 0, 0, -1, 0, 0, 1, 39, 1, 0, length, 1);
                Check.due("it is beyond long", exact.bitLength() > 64, true);
                Check.due("digest()", x.digest(), exact.longValue());
                x.tick(1 + length % 99);
                below += x.digest() < 0 ? 1 : 0;
            }
            Check.due("some are negative, some are not", below > 0 && below < 100, true);
        });
    }
}

import java.util.List;

/** The terms TEXTS, UNDO and EXCEPTIONS, sentence by sentence, and what stands around the terms. */
final class StateTerms {
    private static final String[] COMMANDS = {"a1;", "p0,5;", "l0,1,2;", "b0,3,1;", "t2;"};

    private record Change(String what, Twins.Act act) {
    }

    /** Calls of each undoable method that change something, on the network Nets.rich(). */
    private static final Change[] CHANGES = {
        new Change("add", x -> x.add(8)),
        new Change("setPhase", x -> x.setPhase(0, 21)),
        new Change("setDrift", x -> x.setDrift(0, -7)),
        new Change("blink", x -> x.blink(0, 4, 2)),
        new Change("mend", x -> x.mend(2)),
        new Change("link", x -> x.link(0, 4, 2)),
        new Change("link with another delay", x -> x.link(2, 4, 8)),
        new Change("unlink", x -> x.unlink(2, 4)),
        new Change("setPeriod", x -> x.setPeriod(11)),
        new Change("setResponse of the window", x -> x.setResponse(0, 9)),
        new Change("setResponse of the strength", x -> x.setResponse(1, 9)),
        new Change("setResponse of the kind", x -> x.setResponse(2, 1)),
        new Change("tick", x -> x.tick(99)),
        new Change("execute", x -> x.execute()),
    };

    private StateTerms() {
    }

    static void tell(Sentences s) {
        around(s);
        texts(s);
        syntax(s);
        undo(s);
        exceptions(s);
    }

    private static void around(Sentences s) {
        s.in("What it is");
        s.rests("Pulse-coupled clocks: clocks that count to a period, fire, and by that move the clocks they are linked "
            + "with forward, with delays, windows in which pulses are ignored, clocks that are fast or slow, and blinkers, "
            + "which fire as they like.", "what later calls answer is free.");
        s.says("An object is used for at most 512 calls after it has been made;", () -> {
            // As many ticks as 512 calls can bring: 25 commands of 99 ticks in each of 411 executions.
            PulseClocks x = Nets.withText("t99;".repeat(25));
            for (int k = 1; k <= 411; k++) {
                Check.due("execute()", x.execute(), 25);
            }
            Check.due("now()", x.now(), 411 * 25 * 99);
        });
        s.in("Terms");
        s.rests("The class lets ticks go by, tells which clocks form groups, how far their phases lie apart, when a "
            + "situation repeats itself, and tries in thought how strong the coupling has to be, from which phases all "
            + "clocks come to one group, and which blinker is to blame if they do not.");
        s.in("The constants");
        s.says("The constants: `NONE = -1`: There is no such thing.", () -> {
            Check.due("NONE", PulseClocks.NONE, -1);
            Check.due("no such note", Nets.none().noted(0, true), -1);
        });
        // LanguageTest looks for these in the source.
        String[] calls = {
            "`add`, `setPhase`, `setDrift`, `blink`, `mend`, `link`, `unlink`, `setPeriod`, `setResponse`, `clocks`, "
                + "`clock`, `linkOf`, `distance`, `components`, `isNeeded`",
            "`tick`, `now`, `noted`, `fired`, `underWay`", "`groups`, `group`, `groupOf`, `spread`",
            "`ticksUntil`, `groupsAfter`, `repeats`, `leastStrength`, `basin`, `worstPhase`, `blamed`, `firesIn`",
            "`append`, `clearText`, `execute`, `undo`, `digest`",
        };
        String[] names = {"clocks and links", "ticks", "groups", "in thought", "texts, state"};
        for (int k = 0; k < names.length; k++) {
            s.rests("Ahead of the calls " + calls[k] + " the interface says: ---- " + names[k] + ".");
        }
    }

    private static void texts(Sentences s) {
        s.in("TEXTS");
        s.says("There is a text of at most 100 bytes, initially empty.", () -> {
            PulseClocks x = new PulseClocks();
            Check.due("clearText() of a new object", x.clearText(), 0);
            for (int k = 1; k <= 100; k++) {
                Check.due("append", x.append(k % 128), k);
            }
            Twins.noState("append to 100 bytes", () -> Nets.withText("t1;".repeat(33) + "t"), y -> y.append('1'));
            Check.due("all 100 bytes are read", Check.run(new PulseClocks(), "t01;".repeat(25)), 25);
            Check.due("the last one, too", Check.run(new PulseClocks(), "t01;".repeat(24) + "t01,"), -10 - 99);
        });
        s.says("As commands it is a sequence of commands, perhaps empty, without spaces:", () -> {
            Check.due("the empty text", Nets.none().execute(), 0);
            Check.due("33 commands", Check.run(new PulseClocks(), "t1;".repeat(33)), 33);
            Check.due("33 ticks", ticksOf("t1;".repeat(33)), 33);
            String command = "a1;t2;";
            for (int k = 0; k <= command.length(); k++) {
                String spaced = command.substring(0, k) + " " + command.substring(k);
                Check.due("'" + spaced + "'", Check.run(new PulseClocks(), spaced), -10 - k);
            }
        });
        s.says("a letter, numbers of 1 or 2 digits (perhaps with a leading zero) that are separated by \",\", and \";\".", () -> {
            Check.due("t7;", ticksOf("t7;"), 7);
            Check.due("t07;", ticksOf("t07;"), 7);
            Check.due("t70;", ticksOf("t70;"), 70);
            Check.due("t99;", ticksOf("t99;"), 99);
            for (int n = 1; n <= 99; n++) {
                Check.due("t" + n + ";", ticksOf("t" + n + ";"), n);
                Check.due("two digits of " + n, ticksOf("t" + n / 10 + n % 10 + ";"), n);
            }
            PulseClocks x = Check.withPhases(0, 0, 0, 0, 0, 0, 0, 0, 0, 0);
            Check.due("leading zeros", Check.run(x, "l09,08,07;b00,09,08;p07,06;"), 3);
            Check.due("the delay", x.linkOf(9, 8), 7);
            Check.due("the rhythm", x.clock(0, 3), 9);
            Check.due("the offset", x.clock(0, 4), 8);
            Check.due("the phase", x.clock(7, 0), 6);
            Check.due("numbers alone are no command", Check.run(x, "1;"), -10);
        });
        s.says("The commands are: \"a\" phase; \"p\" clock \",\" phase; \"l\" clock \",\" clock \",\" delay; "
            + "\"b\" clock \",\" rhythm \",\" offset; \"t\" number: add(), setPhase(), link(), blink() and tick().", () -> {
            command("a21;", x -> x.add(21));
            command("p1,21;", x -> x.setPhase(1, 21));
            command("l0,4,8;", x -> x.link(0, 4, 8));
            command("l4,2,8;", x -> x.link(4, 2, 8));
            command("b1,21,12;", x -> x.blink(1, 21, 12));
            command("t21;", x -> x.tick(21));
        });
    }

    private static int ticksOf(String text) {
        PulseClocks x = new PulseClocks();
        Check.run(x, text);
        return x.now();
    }

    /** The command is due to do what the method does. */
    private static void command(String text, Twins.Act method) {
        Twins.Maker maker = () -> {
            PulseClocks x = Nets.rich();
            x.clearText();
            Nets.type(x, text);
            return x;
        };
        Twins.same(text, Twins.look(maker, x -> Check.due(text, x.execute(), 1)), Twins.look(maker, method));
    }

    private static void syntax(Sentences s) {
        s.says("The syntax error position of the text is the index of the first byte that cannot stand where it stands", () -> {
            for (String command : COMMANDS) {
                for (int place = 0; place < command.length(); place++) {
                    everyByteAt("t9;" + command, 3 + place);
                }
            }
            everyByteAt("a12;", 2);
            everyByteAt("a12;", 3);
            everyByteAt("l12,34,56;", 3);
            everyByteAt("l12,34,56;", 6);
            everyByteAt("l12,34,56;", 9);
            Check.due("of several errors the first one", Check.run(new PulseClocks(), "t1;a5,;x"), -10 - 5);
        });
        s.says("(also of a third digit),", () -> {
            String[] text = {"a123;", "t001;", "p100,1;", "p1,100;", "l000,1,1;", "l0,111,1;", "l0,1,100;", "b0,99,099;"};
            int[] place = {3, 3, 3, 5, 3, 5, 7, 8};
            for (int k = 0; k < text.length; k++) {
                Check.due(text[k], Check.run(new PulseClocks(), text[k]), -10 - place[k]);
            }
        });
        s.says("or the length of the text if it ends too early", () -> {
            String text = "a1;p0,12;l0,1,2;b0,3,14;t2;";
            for (int length = 1; length < text.length(); length++) {
                if (text.charAt(length - 1) != ';') {
                    Check.due(text.substring(0, length),
                        Check.run(new PulseClocks(), text.substring(0, length)), -10 - length);
                }
            }
            Check.due("100 bytes", Check.run(new PulseClocks(), "t1;".repeat(33) + "t"), -110);
        });
        s.says("(for the empty text there is no error).", () -> {
            Check.due("a new object", Nets.none().execute(), 0);
            PulseClocks x = Nets.withText("?");
            Check.due("an error", x.execute(), -10);
            x.clearText();
            Check.due("behind clearText()", x.execute(), 0);
        });
    }

    /** Behind the bytes before this place each of the 128 bytes is tried, with nothing behind it. */
    private static void everyByteAt(String text, int place) {
        String before = text.substring(0, place);
        for (int value = 0; value < 128; value++) {
            PulseClocks x = Nets.withText(before);
            x.append(value);
            int got = x.execute();
            String told = "byte " + value + " behind '" + before + "'";
            if (canFollow(before, (char) value)) {
                boolean ended = value == ';';
                Check.due(told + " can stand there", ended ? got >= 0 || got <= -1000 : got == -10 - place - 1, true);
            } else {
                Check.due(told, got, -10 - place);
            }
        }
    }

    private static boolean canFollow(String before, char value) {
        String command = before.substring(before.lastIndexOf(';') + 1);
        if (command.isEmpty()) {
            return "aplbt".indexOf(value) >= 0;
        }
        int commas = command.length() - command.replace(",", "").length();
        int most = "at".indexOf(command.charAt(0)) >= 0 ? 0 : command.charAt(0) == 'p' ? 1 : 2;
        int digits = 0;
        while (Character.isDigit(command.charAt(command.length() - 1 - digits))) {
            digits++;
        }
        boolean digit = value >= '0' && value <= '9';
        return digit ? digits < 2 : digits > 0 && value == (commas < most ? ',' : ';');
    }

    private static void undo(Sentences s) {
        s.in("UNDO");
        s.says("Each successful call of a method that is described as undoable saves the state before the call,", () -> {
            for (Change change : CHANGES) {
                Twins.undoable(change.what, Nets::rich, change.act);
                String before = Twins.look(Nets::rich, x -> { });
                Check.due(change.what + " changes something", Twins.look(Nets::rich, change.act).equals(before), false);
            }
            for (Change refusal : REFUSALS) {
                Check.due(refusal.what + " saves nothing",
                    Twins.saved(Nets::rich, x -> Check.thrown(() -> refusal.act.on(x))), 3);
            }
            for (Change other : OTHERS) {
                Check.due(other.what + " saves nothing", Twins.saved(Nets::rich, other.act), 3);
            }
        });
        s.says("even if nothing changes.", () -> {
            Twins.undoable("setPhase", Nets::rich, x -> x.setPhase(3, x.clock(3, 0)));
            Twins.undoable("setDrift", Nets::rich, x -> x.setDrift(0, 3));
            Twins.undoable("blink", Nets::rich, x -> x.blink(2, 5, 1));
            Twins.undoable("link", Nets::rich, x -> x.link(2, 4, 9));
            Twins.undoable("setPeriod", Nets::rich, x -> x.setPeriod(37));
            Twins.undoable("setResponse", Nets::rich, x -> x.setResponse(1, 6));
            Twins.undoable("execute of nothing", Nets::none, x -> x.execute());
        });
        s.says("At most 4 states are kept;", () -> {
            for (int calls = 0; calls <= 9; calls++) {
                int n = calls;
                Check.due("saved by " + n + " calls", Twins.saved(Nets::none, x -> {
                    for (int k = 0; k < n; k++) {
                        x.tick(1);
                    }
                }), Math.min(n, 4));
            }
        });
        s.says("when one more is saved, the oldest one is dropped;", () -> {
            for (int calls = 4; calls <= 12; calls++) {
                PulseClocks x = new PulseClocks();
                for (int k = 0; k < calls; k++) {
                    x.tick(1);
                }
                for (int k = 1; k <= 4; k++) {
                    Check.due("undo() number " + k, x.undo(), 4 - k);
                    Check.due("now()", x.now(), calls - k);
                }
                Check.noState(x, "the fifth undo()", () -> x.undo());
            }
        });
        s.says("undo() restores the latest one and removes it.", () -> {
            PulseClocks x = new PulseClocks();
            x.tick(5);
            x.tick(10);
            Check.due("undo()", x.undo(), 1);
            Check.due("the latest one", x.now(), 5);
            x.tick(20);
            Check.due("now()", x.now(), 25);
            Check.due("undo()", x.undo(), 1);
            Check.due("the latest one again", x.now(), 5);
            Check.due("undo()", x.undo(), 0);
            Check.due("the first one", x.now(), 0);
            Check.noState(x, "undo() of nothing", () -> x.undo());
        });
        s.says("The state consists of everything except the text.", () -> {
            for (Change change : CHANGES) {
                Twins.same(change.what + " behind three others, all four taken back", Twins.look(StateTerms::withoutSaved, x -> {
                    for (int k = 0; k < 4; k++) {
                        x.setPhase(1, k);
                    }
                    x.undo();
                    change.act.on(x);
                    for (int k = 0; k < 4; k++) {
                        x.undo();
                    }
                }), Twins.look(StateTerms::withoutSaved, x -> { }));
            }
            PulseClocks x = new PulseClocks();
            x.tick(1);
            Nets.type(x, "t5;");
            x.undo();
            Check.due("the text that was appended stays", x.execute(), 1);
            Check.due("now()", x.now(), 5);
            x.clearText();
            x.undo();
            Check.due("the text that was emptied stays empty", x.clearText(), 0);
        });
    }

    /** The rich network, with no state saved. */
    private static PulseClocks withoutSaved() {
        PulseClocks x = Nets.rich();
        for (int k = 0; k < 4; k++) {
            x.setPhase(1, 12);
        }
        for (int k = 0; k < 4; k++) {
            x.undo();
        }
        return x;
    }

    /** Calls of each method that are refused, on the network Nets.rich(). */
    private static final Change[] REFUSALS = {
        new Change("add", x -> x.add(37)),
        new Change("setPhase", x -> x.setPhase(0, 37)),
        new Change("setDrift", x -> x.setDrift(0, 10)),
        new Change("blink", x -> x.blink(0, 0, 0)),
        new Change("mend", x -> x.mend(0)),
        new Change("link", x -> x.link(2, 4, 10)),
        new Change("unlink", x -> x.unlink(0, 4)),
        new Change("setPeriod", x -> x.setPeriod(9)),
        new Change("setResponse", x -> x.setResponse(0, 100)),
        new Change("clock", x -> x.clock(0, 7)),
        new Change("linkOf", x -> x.linkOf(0, 6)),
        new Change("distance", x -> x.distance(6, 0)),
        new Change("isNeeded", x -> x.isNeeded(6)),
        new Change("tick", x -> x.tick(100)),
        new Change("group", x -> x.group(4, true)),
        new Change("groupOf", x -> x.groupOf(6)),
        new Change("ticksUntil", x -> x.ticksUntil(11, 400)),
        new Change("groupsAfter", x -> x.groupsAfter(401)),
        new Change("repeats", x -> x.repeats(401, true)),
        new Change("leastStrength", x -> x.leastStrength(401)),
        new Change("basin", x -> x.basin(0, 401)),
        new Change("worstPhase", x -> x.worstPhase(0, 401)),
        new Change("blamed", x -> x.blamed(401)),
        new Change("firesIn", x -> x.firesIn(0, 401)),
        new Change("append", x -> x.append(128)),
    };

    /** Calls of each method that is not undoable, on the network Nets.rich(). */
    private static final Change[] OTHERS = {
        new Change("clocks", x -> x.clocks()),
        new Change("clock", x -> x.clock(0, 6)),
        new Change("linkOf", x -> x.linkOf(0, 1)),
        new Change("distance", x -> x.distance(0, 3)),
        new Change("components", x -> x.components()),
        new Change("isNeeded", x -> x.isNeeded(0)),
        new Change("now", x -> x.now()),
        new Change("noted", x -> x.noted(0, true)),
        new Change("fired", x -> x.fired()),
        new Change("underWay", x -> x.underWay()),
        new Change("groups", x -> x.groups()),
        new Change("group", x -> x.group(0, true)),
        new Change("groupOf", x -> x.groupOf(0)),
        new Change("spread", x -> x.spread()),
        new Change("ticksUntil", x -> x.ticksUntil(1, 400)),
        new Change("groupsAfter", x -> x.groupsAfter(400)),
        new Change("repeats", x -> x.repeats(400, false)),
        new Change("leastStrength", x -> x.leastStrength(400)),
        new Change("basin", x -> x.basin(0, 400)),
        new Change("worstPhase", x -> x.worstPhase(0, 400)),
        new Change("blamed", x -> x.blamed(400)),
        new Change("firesIn", x -> x.firesIn(0, 400)),
        new Change("append", x -> x.append('x')),
        new Change("clearText", x -> x.clearText()),
        new Change("digest", x -> x.digest()),
    };

    private static void exceptions(Sentences s) {
        s.in("EXCEPTIONS");
        s.says("If several exceptions apply, the one that is listed first is thrown.", () -> {
            Twins.noArgument("add", Nets::full, x -> x.add(40));
            Twins.noArgument("add", Nets::full, x -> x.add(-1));
            Twins.noArgument("append", () -> Nets.withText("x".repeat(100)), x -> x.append(128));
            Twins.noArgument("append", () -> Nets.withText("x".repeat(100)), x -> x.append(-1));
            for (int none : new int[] {-1, 6, 32, Integer.MIN_VALUE, Integer.MAX_VALUE}) {
                Twins.noClock("setPhase", Nets::rich, x -> x.setPhase(none, 37));
                Twins.noClock("setDrift", Nets::rich, x -> x.setDrift(none, 10));
                Twins.noClock("blink", Nets::rich, x -> x.blink(none, 0, 99));
                Twins.noClock("mend", Nets::rich, x -> x.mend(none));
                Twins.noClock("link, both the same", Nets::rich, x -> x.link(none, none, 1));
                Twins.noClock("link, the delay 10", Nets::rich, x -> x.link(0, none, 10));
                Twins.noClock("link, the delay -1", Nets::rich, x -> x.link(none, 0, -1));
                Twins.noClock("unlink, both the same", Nets::rich, x -> x.unlink(none, none));
                Twins.noClock("unlink", Nets::rich, x -> x.unlink(0, none));
                Twins.noClock("clock", Nets::rich, x -> x.clock(none, 7));
                Twins.noClock("basin", Nets::rich, x -> x.basin(none, 0));
                Twins.noClock("worstPhase", Nets::rich, x -> x.worstPhase(none, 0));
                Twins.noClock("firesIn", Nets::rich, x -> x.firesIn(none, 0));
            }
        });
        s.says("A call that throws an exception changes nothing.", () -> {
            for (Change refusal : REFUSALS) {
                Check.due(refusal.what + " throws", Check.thrown(() -> refusal.act.on(Nets.rich())) != null, true);
                Twins.quiet(refusal.what, Nets::rich, x -> Check.thrown(() -> refusal.act.on(x)));
            }
            Twins.noState("add to ten", Nets::full, x -> x.add(0));
            Twins.noState("append to 100 bytes", () -> Nets.withText("t1;".repeat(33) + "t"), x -> x.append('1'));
            Twins.noState("undo of nothing", Nets::none, x -> x.undo());
        });
        s.says("NONE is returned only if no exception applies.", () -> {
            Twins.noClock("linkOf without clocks", Nets::none, x -> x.linkOf(0, 0));
            Twins.noClock("linkOf of one that is not there", Nets::rich, x -> x.linkOf(6, 6));
            Twins.noClock("distance without clocks", Nets::none, x -> x.distance(0, 1));
            Twins.noClock("distance", Nets::rich, x -> x.distance(0, 6));
            Twins.noClock("groupOf", Nets::none, x -> x.groupOf(0));
            Twins.noClock("the rhythm of none", Nets::rich, x -> x.clock(6, 3));
            Twins.noArgument("link", Nets::rich, x -> x.link(0, 4, 10));
            Twins.noArgument("ticksUntil", Nets::rich, x -> x.ticksUntil(0, 401));
            Twins.noArgument("ticksUntil", Nets::rich, x -> x.ticksUntil(-1, 400));
            Twins.noArgument("repeats", Nets::rich, x -> x.repeats(0, true));
            Twins.noArgument("leastStrength", Nets::rich, x -> x.leastStrength(0));
            Twins.noArgument("blamed without blinkers", () -> Nets.row(3, 1), x -> x.blamed(0));
            Twins.noArgument("blamed without clocks", Nets::none, x -> x.blamed(401));
            Twins.noClock("firesIn", Nets::rich, x -> x.firesIn(6, 400));
            Twins.noArgument("firesIn", Nets::rich, x -> x.firesIn(0, 0));
        });
        s.says("Queries in thought (which begin with the present situation) change nothing.", () -> {
            Twins.Maker[] makers = {Nets::none, Nets::rich, Nets::full};
            for (Twins.Maker maker : makers) {
                for (Change query : OTHERS) {
                    boolean asks = !query.what.equals("append") && !query.what.equals("clearText");
                    if (asks && (maker.make().clocks() > 0 || !needsClock(query.what))) {
                        Twins.quiet(query.what, maker, query.act);
                    }
                }
            }
            presentSituation();
        });
    }

    private static boolean needsClock(String what) {
        return List.of("clock", "linkOf", "distance", "isNeeded", "group", "groupOf", "basin", "worstPhase", "firesIn")
            .contains(what);
    }

    /** What a query in thought tells is what ticks then bring; behind a query, and behind another one. */
    private static void presentSituation() {
        PulseClocks x = Nets.rich();
        for (int n = 1; n <= 40; n++) {
            int told = x.groupsAfter(n);
            x.leastStrength(20);
            x.basin(0, 20);
            PulseClocks y = Nets.rich();
            y.tick(n);
            Check.due("groupsAfter(" + n + ")", told, y.groups());
        }
        for (int c = 0; c < 6; c++) {
            int told = x.firesIn(c, 400);
            PulseClocks y = Nets.rich();
            int n = 0;
            do {
                y.tick(1);
                n++;
            } while (n < 150 && (y.fired() & 1 << c) == 0);
            Check.due("firesIn(" + c + ", 400)", told, n);
        }
    }
}

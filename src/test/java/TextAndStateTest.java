/** Promises 34 to 38. */
public final class TextAndStateTest {
    public static void main(String[] args) {
        append();
        clearText();
        syntax();
        execute();
        executeRefuses();
        executeSaves();
        undo();
        undoBringsAllBack();
        digest();
        Check.end();
    }

    private static void append() {
        PulseClocks x = new PulseClocks();
        Check.noArgument(x, "34: append(-1)", () -> x.append(-1));
        Check.noArgument(x, "34: append(128)", () -> x.append(128));
        Check.due("34: append(0)", x.append(0), 1);
        Check.due("34: append(127)", x.append(127), 2);
        for (int k = 3; k <= 100; k++) {
            Check.due("34: append", x.append('x'), k);
        }
        Check.noState(x, "34: append to 100 bytes", () -> x.append('x'));
        Check.noArgument(x, "34: append(128) to 100 bytes", () -> x.append(128));
        Check.noState(x, "34: it is not undoable", () -> x.undo());
    }

    private static void clearText() {
        PulseClocks x = new PulseClocks();
        Check.due("35: clearText()", x.clearText(), 0);
        x.append('a');
        x.append('5');
        Check.due("35: clearText()", x.clearText(), 2);
        Check.due("35: clearText() again", x.clearText(), 0);
        Check.due("35: nothing to execute", x.execute(), 0);
        x.undo();
        Check.noState(x, "35: it is not undoable", () -> x.undo());
    }

    private static void syntax() {
        String[] text = {
            "", "a", "a5", ";", "a;", "a555;", "a5,6;", "a,5;", "a5;;", "a005;", "a 5;", " a5;", "A5;", "a-1;",
            "p", "p0", "p0,", "p0;", "p0,1", "p0,1,2;", "p00,001;", "l0,1;", "l0,1,2,3;", "l0,1,", "l0,,1;",
            "b0,5", "b0,5;", "b0,5,100;", "t", "t100;", "t1:", "x1;", "t1;x", "t1;t", "t1;t1", "t0;?", "t/;", "t1.",
        };
        int[] place = {
            -1, 1, 2, 0, 1, 3, 2, 1, 3, 3, 1, 0, 0, 1,
            1, 2, 3, 2, 4, 4, 6, 4, 6, 5, 3,
            4, 4, 7, 1, 3, 2, 0, 3, 4, 5, 3, 1, 2,
        };
        for (int k = 0; k < text.length; k++) {
            PulseClocks x = new PulseClocks();
            int want = place[k] < 0 ? 0 : -10 - place[k];
            Check.due("36: execute() of '" + text[k] + "'", Check.run(x, text[k]), want);
            Check.due("36: the text stays", x.clearText(), text[k].length());
            if (place[k] >= 0) {
                Check.noState(x, "36: nothing is saved with a syntax error", () -> x.undo());
            }
        }
        PulseClocks x = new PulseClocks();
        Check.due("36: 33 commands and one begun", Check.run(x, "t1;".repeat(33) + "t"), -110);
        Check.due("36: 33 commands", Check.run(x, "t1;".repeat(33)), 33);
        Check.due("36: 25 commands of 4 bytes", Check.run(x, "t01;".repeat(25)), 25);
        Check.due("36: the third digit at the end", Check.run(x, "t1;".repeat(32) + "a111"), -109);
        Check.due("18: now()", x.now(), 58);
    }

    private static void execute() {
        PulseClocks x = new PulseClocks();
        Check.due("36: execute()", Check.run(x, "a5;a07;a25;l0,01,3;b2,9,1;p0,39;t08;"), 7);
        Check.due("36: clocks()", x.clocks(), 3);
        Check.due("36: linkOf(0, 1)", x.linkOf(0, 1), 3);
        Check.due("36: rhythm", x.clock(2, 3), 9);
        Check.due("36: offset", x.clock(2, 4), 1);
        Check.due("36: now()", x.now(), 8);
        Check.due("36: noted(0, false)", x.noted(0, false), 2);
        Check.due("36: noted(1, false)", x.noted(1, false), 0);
        Check.due("36: phase of 0", x.clock(0, 0), 7);
        Check.due("36: phase of 1", x.clock(1, 0), 7 + 8 + 11 * 4 / 16);
        Check.due("36: the text stays", x.execute(), 7);
        Check.due("36: so it can be executed again", x.clocks(), 6);
    }

    private static void refused(String before, String text, int command) {
        PulseClocks x = new PulseClocks();
        Check.run(x, before);
        x.clearText();
        for (int k = 0; k < text.length(); k++) {
            x.append(text.charAt(k));
        }
        Check.quiet(x, "36: '" + text + "'", () ->
            Check.due("36: execute() of '" + text + "'", x.execute(), -1000 - command));
    }

    private static void executeRefuses() {
        refused("", "a40;", 0);
        refused("", "a39;a40;a41;", 1);
        refused("", "a1;".repeat(11), 10);
        refused("", "a1;".repeat(10) + "t1;a40;", 11);
        refused("", "p0,0;", 0);
        refused("a1;", "p0,39;p0,40;", 1);
        refused("a1;", "p1,3;", 0);
        refused("a1;a1;", "l0,1,9;l1,2,1;", 1);
        refused("a1;a1;", "l2,1,1;", 0);
        refused("a1;a1;", "l1,1,1;", 0);
        refused("a1;a1;", "l0,1,10;", 0);
        refused("a1;a1;", "b2,1,1;", 0);
        refused("a1;a1;", "b1,0,1;", 0);
        refused("a1;a1;", "b1,99,98;b1,99,99;", 1);
        refused("a1;a1;", "t99;t0;", 1);
        refused("a1;a1;", "t00;", 0);
        PulseClocks x = new PulseClocks();
        Check.due("36: a syntax error comes first", Check.run(x, "t0;a1;a"), -17);
    }

    private static void executeSaves() {
        PulseClocks x = Check.withPhases(1, 2, 3, 4, 5);
        Check.due("36: execute()", Check.run(x, "t5;a6;t7;"), 3);
        Check.due("37: one state for all commands", x.undo(), 3);
        Check.due("37: now()", x.now(), 0);
        Check.due("37: clocks()", x.clocks(), 5);
        x.clearText();
        Check.due("36: execute() of nothing", x.execute(), 0);
        Check.due("37: undo() of nothing", x.undo(), 3);
        Check.due("37: clocks()", x.clocks(), 5);
    }

    private static void undo() {
        PulseClocks x = new PulseClocks();
        Check.noState(x, "37: undo()", () -> x.undo());
        for (int k = 0; k < 6; k++) {
            x.add(k);
        }
        x.append('a');
        for (int left = 3; left >= 0; left--) {
            Check.due("37: undo()", x.undo(), left);
            Check.due("37: clocks()", x.clocks(), 2 + left);
        }
        Check.noState(x, "37: undo() beyond four", () -> x.undo());
        Check.due("37: the text is no part of the state", x.clearText(), 1);
        x.add(30);
        x.tick(3);
        Check.due("37: undo()", x.undo(), 1);
        x.setPhase(0, 9);
        Check.due("37: undo()", x.undo(), 1);
        Check.due("37: phase", x.clock(0, 0), 0);
        Check.due("37: undo()", x.undo(), 0);
        Check.due("37: clocks()", x.clocks(), 2);
        Check.due("37: a new clock is as new", x.add(3), 2);
        Check.due("37: without links", x.clock(2, 5), 0);
    }

    private static void undoBringsAllBack() {
        PulseClocks x = Check.withPhases(5, 10, 39);
        Check.run(x, "l0,1,3;l1,2,0;b0,3,1;t34;");
        x.setDrift(1, 4);
        x.setResponse(0, 3);
        x.setResponse(1, 9);
        x.setResponse(2, 2);
        long before = x.digest();
        x.setPeriod(50);
        Check.run(x, "a1;l0,3,2;l0,1,0;b2,4,4;p1,9;t99;");
        x.setDrift(1, 0);
        x.setResponse(0, 0);
        for (int k = 0; k < 4; k++) {
            x.undo();
        }
        // The text and the number of saved states are a part of the digest, so both are made equal.
        Check.run(x, "l0,1,3;l1,2,0;b0,3,1;t34;");
        x.undo();
        for (int k = 0; k < 4; k++) {
            x.setPeriod(40);
        }
        Check.due("37: digest() as before", x.digest(), before);
    }

    private static long told(PulseClocks x, int[] rest, int text, int saved) {
        long h = 1858;
        for (int v : rest) {
            h = 31 * h + v;
        }
        h = 31 * h + x.now();
        h = 31 * h + x.clocks();
        for (int c = 0; c < x.clocks(); c++) {
            for (int what = 0; what <= 6; what++) {
                h = 31 * h + x.clock(c, what);
            }
            for (int other = 0; other < x.clocks(); other++) {
                h = 31 * h + x.linkOf(c, other);
            }
        }
        h = 31 * h + x.fired();
        h = 31 * h + x.underWay();
        h = 31 * h + x.groups();
        for (int g = 0; g < x.groups(); g++) {
            h = 31 * h + x.group(g, true);
            h = 31 * h + x.group(g, false);
        }
        h = 31 * h + x.spread();
        for (int k = 0; x.noted(k, true) != PulseClocks.NONE; k++) {
            h = 31 * h + x.noted(k, true);
            h = 31 * h + x.noted(k, false);
        }
        return 31 * (31 * h + text) + saved;
    }

    private static void digest() {
        PulseClocks x = new PulseClocks();
        Check.due("38: digest() of a new one", x.digest(), told(x, new int[] {40, 0, 4, 0}, 0, 0));
        Check.run(x, "a5;a10;a10;l0,1,3;l0,2,0;b2,7,3;t99;");
        Check.due("38: digest()", x.digest(), told(x, new int[] {40, 0, 4, 0}, 36, 1));
        x.setPeriod(50);
        x.setResponse(0, 7);
        x.setResponse(1, 8);
        x.setResponse(2, 1);
        x.tick(99);
        Check.due("38: digest()", x.digest(), told(x, new int[] {50, 7, 8, 1}, 36, 4));
        x.setPhase(1, 0);
        Check.due("38: digest() with the phase 0", x.digest(), told(x, new int[] {50, 7, 8, 1}, 36, 4));
        x.setPhase(1, 49);
        Check.due("38: digest() with the phase P - 1", x.digest(), told(x, new int[] {50, 7, 8, 1}, 36, 4));
        x.undo();
        x.clearText();
        Check.due("38: digest()", x.digest(), told(x, new int[] {50, 7, 8, 1}, 0, 3));
    }
}

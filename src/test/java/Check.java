/** What every test here uses: it prints each answer that is not due, and ends with 1 if there was one. */
final class Check {
    interface Call {
        void run();
    }

    private static int wrong = 0;
    private static int seen = 0;
    private static String context = "";

    private Check() {
    }

    /** What follows is told as a part of this, until it is called anew. */
    static void under(String newContext) {
        context = newContext;
    }

    static int seen() {
        return seen;
    }

    static void due(String what, long got, long want) {
        seen++;
        if (got != want) {
            tell(what + " answered " + got + ", due is " + want);
        }
    }

    static void due(String what, boolean got, boolean want) {
        due(what, got ? 1 : 0, want ? 1 : 0);
    }

    static void fail(String what) {
        seen++;
        tell(what);
    }

    private static void tell(String what) {
        wrong++;
        System.out.println(context + what);
    }

    /** The class of what a call throws; null if it throws nothing. */
    static Class<?> thrown(Call call) {
        try {
            call.run();
            return null;
        } catch (RuntimeException e) {
            return e.getClass();
        }
    }

    static void threw(String what, Class<?> got, Class<?> want) {
        seen++;
        if (got != want) {
            tell(what + " threw " + got + ", due is " + want);
        }
    }

    /** The call is due to throw just this class, and to change nothing of the object. */
    static void refused(PulseClocks x, String what, Class<? extends RuntimeException> want, Call call) {
        long before = x.digest();
        threw(what, thrown(call), want);
        due(what + ": digest() behind it", x.digest(), before);
    }

    static void noClock(PulseClocks x, String what, Call call) {
        refused(x, what, IndexOutOfBoundsException.class, call);
    }

    static void noArgument(PulseClocks x, String what, Call call) {
        refused(x, what, IllegalArgumentException.class, call);
    }

    static void noState(PulseClocks x, String what, Call call) {
        refused(x, what, IllegalStateException.class, call);
    }

    /** The call is due to save one state that undo() then brings back. The text has to be empty. */
    static void undoable(PulseClocks x, String what, Call call) {
        // This makes room for a state, so that the number of saved ones is the same afterwards.
        x.execute();
        x.undo();
        long before = x.digest();
        call.run();
        x.undo();
        due(what + ": digest() after undo()", x.digest(), before);
    }

    /** The call is due to change nothing. */
    static void quiet(PulseClocks x, String what, Call call) {
        long before = x.digest();
        call.run();
        due(what + ": digest() behind it", x.digest(), before);
    }

    static PulseClocks withPhases(int... phases) {
        PulseClocks x = new PulseClocks();
        for (int phase : phases) {
            x.add(phase);
        }
        return x;
    }

    static int run(PulseClocks x, String text) {
        x.clearText();
        for (int k = 0; k < text.length(); k++) {
            x.append(text.charAt(k));
        }
        return x.execute();
    }

    static void end() {
        System.out.println(seen + " answers, " + wrong + " not as due");
        if (wrong != 0 || seen == 0) {
            System.exit(1);
        }
    }
}

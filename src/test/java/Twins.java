import java.util.Set;
import java.util.TreeSet;

/**
 * Two objects that were made alike look alike, now and later, if a call has changed nothing of one of
 * them. Later means: what undo() brings back, what ticks bring, and what the text does; for digest()
 * shows neither the saved states, nor when pulses arrive, nor the bytes of the text.
 */
final class Twins {
    interface Maker {
        PulseClocks make();
    }

    interface Act {
        void on(PulseClocks x);
    }

    interface NumberAct {
        void on(PulseClocks x, int value);
    }

    private static final int[] STRANGE = {
        Integer.MIN_VALUE, Integer.MIN_VALUE + 1, -1000, -100, -40, -32, -10, -2, -1, 0, 1, 32, 40, 100, 128, 400,
        1000, Integer.MAX_VALUE - 1, Integer.MAX_VALUE,
    };

    private Twins() {
    }

    /** The call is due to change nothing. */
    static void quiet(String what, Maker maker, Act act) {
        same(what + " changes nothing", look(maker, act), look(maker, x -> { }));
    }

    /** The call is due to throw just this class, and to change nothing. */
    static void refused(String what, Maker maker, Class<? extends RuntimeException> want, Act act) {
        PulseClocks x = maker.make();
        Check.threw(what, Check.thrown(() -> act.on(x)), want);
        quiet(what, maker, y -> Check.thrown(() -> act.on(y)));
    }

    static void noClock(String what, Maker maker, Act act) {
        refused(what, maker, IndexOutOfBoundsException.class, act);
    }

    static void noArgument(String what, Maker maker, Act act) {
        refused(what, maker, IllegalArgumentException.class, act);
    }

    static void noState(String what, Maker maker, Act act) {
        refused(what, maker, IllegalStateException.class, act);
    }

    /** The call is due to save the state, so that undo() brings it back. It needs room for one more. */
    static void undoable(String what, Maker maker, Act act) {
        Check.due(what + ": states saved by it", saved(maker, act) - saved(maker, x -> { }), 1);
        same(what + " and undo()", look(maker, x -> {
            act.on(x);
            x.undo();
        }), look(maker, x -> { }));
    }

    /** Numbers from low to high are due to be taken, all others to be refused. */
    static void takes(String what, Maker maker, int low, int high, Class<? extends RuntimeException> want, NumberAct act) {
        for (int value : numbersAround(low, high)) {
            String call = what + " with " + value;
            if (value >= low && value <= high) {
                PulseClocks x = maker.make();
                Check.threw(call, Check.thrown(() -> act.on(x, value)), null);
            } else {
                refused(call, maker, want, x -> act.on(x, value));
            }
        }
    }

    /** All from low to high, those next to them, and those that some number of bits would mistake for them. */
    static Set<Integer> numbersAround(int low, int high) {
        Set<Integer> numbers = new TreeSet<>();
        for (int value = low - 3; value <= high + 3; value++) {
            numbers.add(value);
        }
        for (int value : STRANGE) {
            numbers.add(value);
        }
        for (int bit = 3; bit < 32; bit++) {
            numbers.add(low + (1 << bit));
            numbers.add(high + (1 << bit));
            numbers.add(low - (1 << bit));
            numbers.add(high - (1 << bit));
        }
        return numbers;
    }

    static void same(String what, String got, String want) {
        if (got.equals(want)) {
            Check.due(what, 0, 0);
        } else {
            Check.fail(what + ": is .." + fromTheirDifference(got, want) + ", due is .." + fromTheirDifference(want, got));
        }
    }

    private static String fromTheirDifference(String text, String other) {
        int at = 0;
        while (at < text.length() && at < other.length() && text.charAt(at) == other.charAt(at)) {
            at++;
        }
        return text.substring(Math.max(at - 30, 0), Math.min(at + 30, text.length()));
    }

    static int saved(Maker maker, Act act) {
        PulseClocks x = maker.make();
        act.on(x);
        int count = 0;
        while (count < 10 && Check.thrown(x::undo) == null) {
            count++;
        }
        return count;
    }

    /** All that can be seen of an object behind a call, now and later. */
    static String look(Maker maker, Act act) {
        StringBuilder seen = new StringBuilder();
        PulseClocks back = maker.make();
        act.on(back);
        seen.append(back.digest());
        for (int k = 0; k < 6 && Check.thrown(back::undo) == null; k++) {
            seen.append(" u ").append(back.digest());
        }
        PulseClocks ahead = maker.make();
        act.on(ahead);
        for (int k = 0; k < 12; k++) {
            seen.append(" t ").append(ahead.tick(1)).append(' ').append(ahead.digest());
        }
        seen.append(" t ").append(ahead.tick(99)).append(' ').append(ahead.digest());
        PulseClocks text = maker.make();
        act.on(text);
        seen.append(" e ").append(text.execute()).append(' ').append(text.digest());
        return seen.append(" c ").append(text.clearText()).toString();
    }
}

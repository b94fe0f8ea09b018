import java.lang.reflect.InvocationTargetException;
import java.lang.reflect.Method;
import java.util.ArrayDeque;
import java.util.Arrays;
import java.util.Deque;
import java.util.HashMap;
import java.util.Map;
import java.util.Random;

/** Runs of calls, drawn from fixed seeds, on a PulseClocks and on an Oracle: all answers are due alike. */
public final class RandomRunsTest {
    private static final int RUNS = 600;
    private static final int CALLS = 250;
    private static final int[] STRANGE = {Integer.MIN_VALUE, Integer.MAX_VALUE, -1, -2, 10, 11, 40, 100, 101, 128, 401};

    private record Act(String name, Object[] args) {
    }

    private final Random random;
    private final Map<String, Method> real = new HashMap<>();
    private final Map<String, Method> due = new HashMap<>();
    private final String[] names;
    private final int density;
    private final boolean calm;
    private final Deque<Act> planned = new ArrayDeque<>();

    private RandomRunsTest(long seed) {
        random = new Random(seed);
        for (Method m : PulseClocks.class.getDeclaredMethods()) {
            if (java.lang.reflect.Modifier.isPublic(m.getModifiers())) {
                real.put(m.getName(), m);
            }
        }
        for (Method m : Oracle.class.getDeclaredMethods()) {
            due.put(m.getName(), m);
        }
        names = real.keySet().toArray(new String[0]);
        Arrays.sort(names);
        density = 1 + random.nextInt(4);
        calm = random.nextInt(3) > 0;
    }

    public static void main(String[] args) throws Exception {
        int from = args.length > 0 ? Integer.parseInt(args[0]) : 0;
        int runs = args.length > 1 ? Integer.parseInt(args[1]) : RUNS;
        for (int seed = from; seed < from + runs; seed++) {
            new RandomRunsTest(seed).go(seed);
        }
        Check.end();
    }

    private void go(long seed) throws Exception {
        PulseClocks x = new PulseClocks();
        Oracle o = new Oracle();
        begin();
        for (int k = 0; k < CALLS; k++) {
            Act act = planned.isEmpty() ? draw(o) : planned.removeFirst();
            String got = answer(x, real.get(act.name), act.args);
            String want = answer(o, due.get(act.name), act.args);
            String told = "seed " + seed + ", call " + k + ": " + act.name + Arrays.toString(act.args);
            if (!got.equals(want)) {
                Check.fail(told + " answered " + got + ", due is " + want);
                return;
            }
            if (x.digest() != o.digest()) {
                Check.fail(told + ": digest() behind it is wrong");
                return;
            }
            Check.due(told, 0, 0);
        }
    }

    private static String answer(Object target, Method method, Object[] args) throws Exception {
        try {
            return String.valueOf(method.invoke(target, args));
        } catch (InvocationTargetException e) {
            return e.getCause().getClass().getName();
        }
    }

    private void plan(String name, Object... args) {
        planned.addLast(new Act(name, args));
    }

    /** Most runs begin with a network, so that pulses are under way soon. */
    private void begin() {
        if (random.nextInt(8) == 0) {
            return;
        }
        int period = 40;
        if (random.nextBoolean()) {
            period = 10 + random.nextInt(random.nextBoolean() ? 91 : 10);
            plan("setPeriod", period);
        }
        int clocks = random.nextInt(5) == 0 ? 10 : 1 + random.nextInt(6);
        for (int c = 0; c < clocks; c++) {
            plan("add", random.nextInt(period));
        }
        boolean atOnce = random.nextInt(3) == 0;
        for (int a = 0; a < clocks; a++) {
            for (int b = 0; b < a; b++) {
                if (random.nextInt(5) < density) {
                    plan("link", a, b, atOnce ? 0 : random.nextInt(10));
                }
            }
        }
        plan("setResponse", 2, random.nextInt(3));
        plan("setResponse", 1, random.nextInt(33));
        if (random.nextBoolean()) {
            plan("setResponse", 0, random.nextInt(period));
        }
    }

    private Act draw(Oracle o) {
        int dice = random.nextInt(100);
        if (dice < 20) {
            return new Act("tick", new Object[] {odd() ? strange() : 1 + random.nextInt(random.nextBoolean() ? 5 : 99)});
        }
        if (dice < 26) {
            type();
            return planned.removeFirst();
        }
        String name = names[random.nextInt(names.length)];
        // Calls that change the network stand back in calm runs, so that the network can swing in.
        if (calm && dice < 80 && "setPhase setPeriod setResponse link unlink blink mend undo".contains(name)) {
            name = "tick";
        }
        return new Act(name, arguments(name, o));
    }

    private boolean odd() {
        return random.nextInt(25) == 0;
    }

    private int strange() {
        return STRANGE[random.nextInt(STRANGE.length)];
    }

    private int pick(int from, int to) {
        return odd() ? strange() : from + random.nextInt(to - from + 1);
    }

    private int clock(Oracle o) {
        return odd() || o.clocks() == 0 ? pick(-1, 11) : random.nextInt(o.clocks());
    }

    private int limit() {
        return odd() ? pick(-1, 402) : 1 + random.nextInt(random.nextInt(12) == 0 ? 400 : 45);
    }

    private Object[] arguments(String name, Oracle o) {
        switch (name) {
            case "add":
                return new Object[] {pick(-1, random.nextBoolean() ? 12 : 41)};
            case "setPhase":
                return new Object[] {clock(o), pick(0, random.nextBoolean() ? 9 : 40)};
            case "setDrift":
                return new Object[] {clock(o), pick(-10, 10)};
            case "blink":
                return new Object[] {clock(o), pick(0, random.nextBoolean() ? 12 : 100), pick(-1, 99)};
            case "link":
                return new Object[] {clock(o), clock(o), pick(-1, 10)};
            case "unlink", "linkOf", "distance":
                return new Object[] {clock(o), clock(o)};
            case "mend", "isNeeded", "groupOf":
                return new Object[] {clock(o)};
            case "setPeriod":
                return new Object[] {pick(9, random.nextBoolean() ? 20 : 101)};
            case "setResponse":
                int what = pick(-1, 3);
                return new Object[] {what, pick(-1, what == 0 ? 100 : what == 1 ? 33 : 3)};
            case "clock":
                return new Object[] {clock(o), pick(-1, 7)};
            case "tick":
                return new Object[] {pick(0, random.nextBoolean() ? 9 : 100)};
            case "noted":
                return new Object[] {pick(-1, 61), random.nextBoolean()};
            case "group":
                return new Object[] {pick(-1, 5), random.nextBoolean()};
            case "ticksUntil":
                return new Object[] {pick(0, 4), limit()};
            case "repeats":
                return new Object[] {odd() ? limit() : 1 + random.nextInt(400), random.nextBoolean()};
            case "groupsAfter", "leastStrength", "blamed":
                return new Object[] {limit()};
            case "basin", "worstPhase", "firesIn":
                return new Object[] {clock(o), limit()};
            case "append":
                return new Object[] {pick(-1, 128)};
            default:
                return new Object[0];
        }
    }

    private void type() {
        if (random.nextInt(4) > 0) {
            plan("clearText");
        }
        StringBuilder s = new StringBuilder();
        int commands = random.nextInt(5);
        for (int k = 0; k < commands; k++) {
            char letter = "aplbt".charAt(random.nextInt(5));
            s.append(letter).append(number(letter == 'a' ? 25 : letter == 't' ? 99 : 5));
            if (letter == 'p') {
                s.append(',').append(number(20));
            } else if (letter == 'l' || letter == 'b') {
                s.append(',').append(number(7)).append(',').append(number(9));
            }
            s.append(';');
        }
        if (random.nextInt(3) == 0 && s.length() > 0) {
            int at = random.nextInt(s.length());
            char sign = "aplbt0123456789,,,;;;x ".charAt(random.nextInt(23));
            switch (random.nextInt(3)) {
                case 0 -> s.setCharAt(at, sign);
                case 1 -> s.deleteCharAt(at);
                default -> s.insert(at, sign);
            }
        }
        for (int k = 0; k < s.length(); k++) {
            plan("append", (int) s.charAt(k));
        }
        plan("execute");
    }

    private String number(int most) {
        int n = random.nextInt(most + 1);
        return n < 10 && random.nextInt(4) == 0 ? "0" + n : String.valueOf(n);
    }
}

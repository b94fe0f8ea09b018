/** Networks that several tests use. */
final class Nets {
    private Nets() {
    }

    static PulseClocks none() {
        return new PulseClocks();
    }

    /** Six clocks with something of everything, pulses under way, a text, and three saved states. */
    static PulseClocks rich() {
        PulseClocks x = Check.withPhases(5, 12, 36, 20, 9, 30);
        x.setPeriod(37);
        x.setResponse(0, 2);
        x.setResponse(1, 6);
        x.setDrift(0, 3);
        x.setDrift(1, -4);
        x.blink(2, 5, 1);
        x.blink(3, 7, 3);
        x.setDrift(3, 2);
        x.link(0, 1, 3);
        x.link(1, 2, 0);
        x.link(2, 4, 9);
        x.link(3, 4, 1);
        x.link(0, 5, 0);
        x.link(4, 5, 6);
        x.tick(99);
        x.tick(7);
        type(x, "t3;a7;p0,1;");
        return withRoom(x);
    }

    /** Ten clocks, each linked with each, pulses under way, and three saved states. */
    static PulseClocks full() {
        PulseClocks x = Check.withPhases(3, 39, 14, 21, 7, 7, 30, 35, 1, 18);
        x.setResponse(1, 1);
        x.setResponse(2, 1);
        for (int a = 0; a < 10; a++) {
            for (int b = 0; b < a; b++) {
                x.link(a, b, 1 + (3 * a + b) % 9);
            }
        }
        x.blink(8, 3, 1);
        x.tick(15);
        return withRoom(x);
    }

    /** In the next tick clock 0 makes no step, so that from P, which is no phase, it would wait longest. */
    static PulseClocks longestFromP() {
        PulseClocks x = new PulseClocks();
        x.setPeriod(10);
        x.add(7);
        x.add(6);
        x.link(0, 1, 1);
        x.setDrift(0, -2);
        x.setResponse(2, 1);
        x.setResponse(1, 9);
        x.tick(1);
        return x;
    }

    /** Undoes an execution that has dropped the oldest of four saved states: three are left. */
    private static PulseClocks withRoom(PulseClocks x) {
        x.execute();
        x.undo();
        return x;
    }

    static void type(PulseClocks x, String text) {
        for (int k = 0; k < text.length(); k++) {
            x.append(text.charAt(k));
        }
    }

    static PulseClocks withText(String text) {
        PulseClocks x = new PulseClocks();
        type(x, text);
        return x;
    }

    /** Blinkers alone; each of them fires in every tick. */
    static PulseClocks blinkers(int count) {
        PulseClocks x = new PulseClocks();
        for (int c = 0; c < count; c++) {
            x.add(c);
            x.blink(c, 1, 0);
        }
        return x;
    }

    /** Each clock is linked with the next one. */
    static PulseClocks row(int count, int delay) {
        PulseClocks x = new PulseClocks();
        for (int c = 0; c < count; c++) {
            x.add(0);
            if (c > 0) {
                x.link(c - 1, c, delay);
            }
        }
        return x;
    }

    /** How a pulse at once moves a clock that has this phase by then; 1000 if it fires by it. */
    static int pushed(int period, int phase, int window, int strength, int kind) {
        PulseClocks x = new PulseClocks();
        x.setPeriod(period);
        x.add(phase);
        x.add(0);
        x.setDrift(0, -1);
        x.blink(1, 1, 0);
        x.link(0, 1, 0);
        x.setResponse(0, window);
        x.setResponse(1, strength);
        x.setResponse(2, kind);
        int fires = x.tick(1);
        return fires == 2 && x.clock(0, 0) == 0 ? 1000 : x.clock(0, 0);
    }

    /** The clocks of the latest notes, the latest one last, as digits. */
    static String order(PulseClocks x, int notes) {
        StringBuilder clocks = new StringBuilder();
        for (int k = notes - 1; k >= 0; k--) {
            clocks.append(x.noted(k, false));
        }
        return clocks.toString();
    }
}

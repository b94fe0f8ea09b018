/** Promises 22 to 25. */
public final class GroupsTest {
    private static final int NONE = PulseClocks.NONE;

    public static void main(String[] args) {
        groups();
        group();
        groupOf();
        spread();
        Check.end();
    }

    private static void groups() {
        PulseClocks x = new PulseClocks();
        Check.due("22: groups()", x.groups(), 0);
        x.add(5);
        Check.due("22: groups()", x.groups(), 1);
        x.add(5);
        Check.due("22: groups()", x.groups(), 1);
        x.add(0);
        x.add(39);
        Check.due("22: groups()", x.groups(), 3);
        x.blink(3, 1, 0);
        Check.due("22: groups() without the blinker", x.groups(), 2);
        x.blink(0, 1, 0);
        Check.due("22: groups(), one of two a blinker", x.groups(), 2);
        x.blink(1, 1, 0);
        x.blink(2, 1, 0);
        Check.due("22: groups() of blinkers", x.groups(), 0);
        PulseClocks ten = Check.withPhases(9, 8, 7, 6, 5, 4, 3, 2, 1, 0);
        Check.due("22: groups() of ten", ten.groups(), 10);
    }

    private static void group() {
        PulseClocks x = Check.withPhases(39, 7, 0, 7, 7, 20);
        x.blink(3, 1, 0);
        x.blink(5, 1, 0);
        int[] phase = {0, 7, 39};
        int[] members = {0b100, 0b10010, 0b1};
        for (int k = 0; k < 3; k++) {
            Check.due("23: group(" + k + ", true)", x.group(k, true), phase[k]);
            Check.due("23: group(" + k + ", false)", x.group(k, false), members[k]);
        }
        Check.noClock(x, "23: group(3, true)", () -> x.group(3, true));
        Check.noClock(x, "23: group(-1, false)", () -> x.group(-1, false));
        Check.noClock(x, "23: group(MIN, true)", () -> x.group(Integer.MIN_VALUE, true));
        x.setPeriod(100);
        x.setPhase(0, 99);
        Check.due("23: the last phase", x.group(2, true), 99);
        PulseClocks empty = new PulseClocks();
        Check.noClock(empty, "23: group(0, true)", () -> empty.group(0, true));
    }

    private static void groupOf() {
        PulseClocks x = Check.withPhases(39, 7, 0, 7, 8);
        x.blink(4, 1, 0);
        int[] want = {2, 1, 0, 1, NONE};
        for (int c = 0; c < 5; c++) {
            Check.due("24: groupOf(" + c + ")", x.groupOf(c), want[c]);
        }
        Check.noClock(x, "24: groupOf(5)", () -> x.groupOf(5));
        Check.noClock(x, "24: groupOf(-1)", () -> x.groupOf(-1));
        x.mend(4);
        Check.due("24: groupOf(0)", x.groupOf(0), 3);
        Check.due("24: groupOf(4)", x.groupOf(4), 2);
    }

    private static void spread() {
        Check.due("25: spread() without clocks", new PulseClocks().spread(), 0);
        Check.due("25: spread() of one", Check.withPhases(17).spread(), 0);
        Check.due("25: spread() of equals", Check.withPhases(17, 17).spread(), 0);
        Check.due("25: spread() of 0, 39", Check.withPhases(0, 39).spread(), 1);
        Check.due("25: spread() of 0, 20", Check.withPhases(0, 20).spread(), 20);
        Check.due("25: spread() of 0, 21", Check.withPhases(0, 21).spread(), 19);
        Check.due("25: spread() of 5, 12, 38", Check.withPhases(5, 12, 38).spread(), 14);
        Check.due("25: spread() of 0, 10, 20, 30", Check.withPhases(0, 10, 20, 30).spread(), 30);
        PulseClocks x = Check.withPhases(5, 12, 38);
        x.blink(2, 1, 0);
        Check.due("25: spread() without the blinker", x.spread(), 7);
        x.blink(0, 1, 0);
        Check.due("25: spread() of one", x.spread(), 0);
        x.blink(1, 1, 0);
        Check.due("25: spread() of blinkers", x.spread(), 0);
        PulseClocks wide = new PulseClocks();
        wide.setPeriod(100);
        wide.add(0);
        wide.add(99);
        wide.add(49);
        Check.due("25: spread() of 0, 99, 49", wide.spread(), 50);
    }
}

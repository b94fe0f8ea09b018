import java.util.ArrayDeque;
import java.util.ArrayList;
import java.util.Deque;
import java.util.HashMap;
import java.util.HashSet;
import java.util.List;
import java.util.Map;
import java.util.Set;
import java.util.TreeMap;
import java.util.regex.Matcher;
import java.util.regex.Pattern;

/**
 * The document once more, written from its words alone and without a thought of speed or room:
 * pulses are single objects, situations are texts that are kept, and the syntax is a pattern.
 */
final class Oracle {
    private static final int NONE = -1;
    private static final Pattern COMMANDS = Pattern.compile(
        "(?:[at]\\d\\d?;|p\\d\\d?,\\d\\d?;|[lb]\\d\\d?,\\d\\d?,\\d\\d?;)*");

    private static final class Clock {
        int phase;
        int drift;
        boolean blinker;
        int rhythm;
        int offset;

        Clock copy() {
            Clock c = new Clock();
            c.phase = phase;
            c.drift = drift;
            c.blinker = blinker;
            c.rhythm = rhythm;
            c.offset = offset;
            return c;
        }
    }

    private record Pulse(int from, int to, int arrives) {
    }

    private record Note(int tick, int clock) {
    }

    private int period = 40;
    private int window = 0;
    private int strength = 4;
    private int kind = 0;
    private int t = 0;
    private List<Clock> all = new ArrayList<>();
    private Map<Set<Integer>, Integer> links = new HashMap<>();
    private List<Pulse> pulses = new ArrayList<>();
    private List<Note> log = new ArrayList<>();
    private List<Integer> latest = new ArrayList<>();

    private final Deque<Oracle> saved = new ArrayDeque<>();
    private String text = "";

    // ---- clocks and links

    public int add(int phase) {
        argument(phase >= 0 && phase < period);
        state(all.size() < 10);
        save();
        Clock c = new Clock();
        c.phase = phase;
        all.add(c);
        return all.size() - 1;
    }

    public int setPhase(int clock, int phase) {
        exists(clock);
        argument(phase >= 0 && phase < period);
        save();
        int before = all.get(clock).phase;
        all.get(clock).phase = phase;
        return before;
    }

    public int setDrift(int clock, int drift) {
        exists(clock);
        argument(drift >= -9 && drift <= 9);
        save();
        int before = all.get(clock).drift;
        all.get(clock).drift = drift;
        return before;
    }

    public int blink(int clock, int rhythm, int offset) {
        exists(clock);
        argument(rhythm >= 1 && rhythm <= 99 && offset >= 0 && offset <= 98);
        save();
        Clock c = all.get(clock);
        c.blinker = true;
        c.rhythm = rhythm;
        c.offset = offset;
        return (int) all.stream().filter(a -> a.blinker).count();
    }

    public int mend(int clock) {
        exists(clock);
        state(all.get(clock).blinker);
        save();
        all.get(clock).blinker = false;
        return (int) all.stream().filter(a -> a.blinker).count();
    }

    public int link(int one, int other, int delay) {
        exists(one);
        exists(other);
        argument(one != other && delay >= 0 && delay <= 9);
        save();
        int before = linkOf(one, other);
        if (before != delay) {
            dropPulses(one, other);
        }
        links.put(Set.of(one, other), delay);
        return before;
    }

    public int unlink(int one, int other) {
        exists(one);
        exists(other);
        state(linkOf(one, other) != NONE);
        save();
        dropPulses(one, other);
        links.remove(Set.of(one, other));
        return links.size();
    }

    public int setPeriod(int newPeriod) {
        argument(newPeriod >= 10 && newPeriod <= 100);
        save();
        int before = period;
        period = newPeriod;
        for (Clock c : all) {
            if (c.phase >= period) {
                c.phase = c.phase % period;
            }
        }
        return before;
    }

    public int setResponse(int what, int value) {
        argument(what == 0 && value >= 0 && value <= 99
            || what == 1 && value >= 0 && value <= 32
            || what == 2 && value >= 0 && value <= 2);
        save();
        int before = what == 0 ? window : what == 1 ? strength : kind;
        if (what == 0) {
            window = value;
        } else if (what == 1) {
            strength = value;
        } else {
            kind = value;
        }
        return before;
    }

    public int clocks() {
        return all.size();
    }

    public int clock(int clock, int what) {
        exists(clock);
        argument(what >= 0 && what <= 6);
        Clock c = all.get(clock);
        int[] answers = {
            c.phase, c.drift, c.blinker ? 1 : 0, c.blinker ? c.rhythm : NONE, c.blinker ? c.offset : NONE,
            (int) links.keySet().stream().filter(l -> l.contains(clock)).count(),
            (int) pulses.stream().filter(p -> p.to == clock).count(),
        };
        return answers[what];
    }

    public int linkOf(int one, int other) {
        exists(one);
        exists(other);
        return one == other ? NONE : links.getOrDefault(Set.of(one, other), NONE);
    }

    public int distance(int one, int other) {
        exists(one);
        exists(other);
        int n = all.size();
        int far = 1000;
        int[][] d = new int[n][n];
        for (int a = 0; a < n; a++) {
            for (int b = 0; b < n; b++) {
                d[a][b] = a == b ? 0 : linkOf(a, b) != NONE ? 1 : far;
            }
        }
        for (int k = 0; k < n; k++) {
            for (int a = 0; a < n; a++) {
                for (int b = 0; b < n; b++) {
                    d[a][b] = Math.min(d[a][b], d[a][k] + d[k][b]);
                }
            }
        }
        return d[one][other] >= far ? NONE : d[one][other];
    }

    public int components() {
        return partsWithout(-1);
    }

    public boolean isNeeded(int clock) {
        exists(clock);
        return partsWithout(clock) > partsWithout(-1);
    }

    private int partsWithout(int gone) {
        int[] name = new int[all.size()];
        for (int k = 0; k < name.length; k++) {
            name[k] = k;
        }
        for (Set<Integer> l : links.keySet()) {
            List<Integer> ends = new ArrayList<>(l);
            if (!l.contains(gone)) {
                int from = name[ends.get(0)];
                int to = name[ends.get(1)];
                for (int k = 0; k < name.length; k++) {
                    name[k] = name[k] == from ? to : name[k];
                }
            }
        }
        Set<Integer> names = new HashSet<>();
        for (int k = 0; k < name.length; k++) {
            if (k != gone) {
                names.add(name[k]);
            }
        }
        return names.size();
    }

    // ---- ticks

    public int tick(int n) {
        argument(n >= 1 && n <= 99);
        save();
        int fires = 0;
        for (int k = 0; k < n; k++) {
            oneTick();
            fires += latest.size();
        }
        return fires;
    }

    private void oneTick() {
        t++;
        latest = new ArrayList<>();
        for (Clock c : all) {
            if (!c.blinker) {
                boolean hit = c.drift != 0 && t % Math.abs(c.drift) == 0;
                c.phase += !hit ? 1 : c.drift > 0 ? 2 : 0;
            }
        }
        for (int c = 0; c < all.size(); c++) {
            if (!all.get(c).blinker && all.get(c).phase >= period) {
                fire(c);
            }
        }
        for (int c = 0; c < all.size(); c++) {
            if (all.get(c).blinker && (t + all.get(c).offset) % all.get(c).rhythm == 0) {
                fire(c);
            }
        }
        List<Pulse> arriving = new ArrayList<>(pulses);
        arriving.removeIf(p -> p.arrives != t);
        arriving.sort((a, b) -> a.to - b.to);
        pulses.removeIf(p -> p.arrives == t);
        for (Pulse p : arriving) {
            reach(p.to);
        }
        for (int k = 0; k < latest.size(); k++) {
            for (int other = 0; other < all.size(); other++) {
                if (linkOf(latest.get(k), other) == 0) {
                    reach(other);
                }
            }
        }
    }

    private void reach(int clock) {
        Clock c = all.get(clock);
        if (c.blinker || latest.contains(clock) || c.phase < window) {
            return;
        }
        int p = c.phase;
        int k = strength;
        int q = kind == 0 ? p + p * k / 16 : kind == 1 ? p + k : p + p * p * k / (16 * period);
        c.phase = q;
        if (q >= period) {
            fire(clock);
        }
    }

    private void fire(int clock) {
        latest.add(clock);
        log.add(new Note(t, clock));
        if (!all.get(clock).blinker) {
            all.get(clock).phase = 0;
        }
        for (int other = 0; other < all.size(); other++) {
            int d = linkOf(clock, other);
            if (d > 0) {
                pulses.add(new Pulse(clock, other, t + d));
            }
        }
    }

    private void dropPulses(int one, int other) {
        pulses.removeIf(p -> p.from == one && p.to == other || p.from == other && p.to == one);
    }

    public int now() {
        return t;
    }

    public int noted(int k, boolean tick) {
        if (k < 0 || k >= 60 || k >= log.size()) {
            return NONE;
        }
        Note n = log.get(log.size() - 1 - k);
        return tick ? n.tick : n.clock;
    }

    public int fired() {
        int bits = 0;
        for (int c : latest) {
            bits |= 1 << c;
        }
        return bits;
    }

    public int underWay() {
        return pulses.size();
    }

    // ---- groups

    private TreeMap<Integer, Integer> groupMap() {
        TreeMap<Integer, Integer> map = new TreeMap<>();
        for (int c = 0; c < all.size(); c++) {
            if (!all.get(c).blinker) {
                map.merge(all.get(c).phase, 1 << c, (a, b) -> a | b);
            }
        }
        return map;
    }

    public int groups() {
        return groupMap().size();
    }

    public int group(int index, boolean phase) {
        List<Integer> phases = new ArrayList<>(groupMap().keySet());
        if (index < 0 || index >= phases.size()) {
            throw new IndexOutOfBoundsException();
        }
        return phase ? phases.get(index) : groupMap().get(phases.get(index));
    }

    public int groupOf(int clock) {
        exists(clock);
        if (all.get(clock).blinker) {
            return NONE;
        }
        return groupMap().headMap(all.get(clock).phase).size();
    }

    public int spread() {
        for (int s = 0; s < period; s++) {
            for (int x = 0; x < period; x++) {
                boolean fits = true;
                for (int p : groupMap().keySet()) {
                    fits &= (p - x + period) % period <= s;
                }
                if (fits) {
                    return s;
                }
            }
        }
        throw new AssertionError();
    }

    // ---- in thought

    private Oracle copy() {
        Oracle o = new Oracle();
        o.take(this);
        return o;
    }

    private void take(Oracle o) {
        period = o.period;
        window = o.window;
        strength = o.strength;
        kind = o.kind;
        t = o.t;
        all = new ArrayList<>();
        for (Clock c : o.all) {
            all.add(c.copy());
        }
        links = new HashMap<>(o.links);
        pulses = new ArrayList<>(o.pulses);
        log = new ArrayList<>(o.log);
        latest = new ArrayList<>(o.latest);
    }

    public int ticksUntil(int groups, int limit) {
        argument(groups >= 0 && groups <= 10 && limit >= 1 && limit <= 400);
        Oracle o = copy();
        for (int n = 1; n <= limit; n++) {
            o.oneTick();
            if (o.groups() <= groups) {
                return n;
            }
        }
        return NONE;
    }

    public int groupsAfter(int n) {
        argument(n >= 1 && n <= 400);
        Oracle o = copy();
        for (int k = 0; k < n; k++) {
            o.oneTick();
        }
        return o.groups();
    }

    private String situation() {
        StringBuilder s = new StringBuilder();
        for (Clock c : all) {
            s.append(c.phase).append(' ');
            s.append(c.blinker ? t % c.rhythm : c.drift != 0 ? t % Math.abs(c.drift) : 0).append('|');
        }
        List<String> ways = new ArrayList<>();
        for (Pulse p : pulses) {
            ways.add(p.from + ">" + p.to + ":" + (p.arrives - t));
        }
        ways.sort(String::compareTo);
        return s.append(ways).toString();
    }

    public int repeats(int limit, boolean first) {
        argument(limit >= 1 && limit <= 400);
        Oracle o = copy();
        Map<String, Integer> seen = new HashMap<>();
        seen.put(o.situation(), 0);
        for (int n = 1; n <= limit; n++) {
            o.oneTick();
            Integer earlier = seen.putIfAbsent(o.situation(), n);
            if (earlier != null) {
                return first ? earlier : n - earlier;
            }
        }
        return NONE;
    }

    public int leastStrength(int limit) {
        argument(limit >= 1 && limit <= 400);
        for (int k = 0; k <= 32; k++) {
            Oracle o = copy();
            o.strength = k;
            if (o.ticksUntil(1, limit) != NONE) {
                return k;
            }
        }
        return NONE;
    }

    public int basin(int clock, int limit) {
        exists(clock);
        argument(limit >= 1 && limit <= 400);
        int found = 0;
        for (int p = 0; p < period; p++) {
            Oracle o = copy();
            o.all.get(clock).phase = p;
            found += o.ticksUntil(1, limit) != NONE ? 1 : 0;
        }
        return found;
    }

    public int worstPhase(int clock, int limit) {
        exists(clock);
        argument(limit >= 1 && limit <= 400);
        int worst = -1;
        int most = -1;
        for (int p = 0; p < period; p++) {
            Oracle o = copy();
            o.all.get(clock).phase = p;
            int ticks = o.ticksUntil(1, limit);
            ticks = ticks == NONE ? Integer.MAX_VALUE : ticks;
            if (ticks > most) {
                most = ticks;
                worst = p;
            }
        }
        return worst;
    }

    public int blamed(int limit) {
        argument(limit >= 1 && limit <= 400);
        for (int c = 0; c < all.size(); c++) {
            if (all.get(c).blinker) {
                Oracle o = copy();
                o.all.get(c).blinker = false;
                if (o.ticksUntil(1, limit) != NONE) {
                    return c;
                }
            }
        }
        return NONE;
    }

    public int firesIn(int clock, int limit) {
        exists(clock);
        argument(limit >= 1 && limit <= 400);
        Oracle o = copy();
        for (int n = 1; n <= limit; n++) {
            o.oneTick();
            if (o.latest.contains(clock)) {
                return n;
            }
        }
        return NONE;
    }

    // ---- texts, state

    public int append(int value) {
        argument(value >= 0 && value <= 127);
        state(text.length() < 100);
        text += (char) value;
        return text.length();
    }

    public int clearText() {
        int before = text.length();
        text = "";
        return before;
    }

    public int execute() {
        if (!COMMANDS.matcher(text).matches()) {
            int fits = 0;
            while (fits < text.length() && canGoOn(text.substring(0, fits + 1))) {
                fits++;
            }
            return -10 - fits;
        }
        Oracle before = copy();
        Deque<Oracle> savedBefore = new ArrayDeque<>(saved);
        String[] commands = text.isEmpty() ? new String[0] : text.split(";");
        for (int k = 0; k < commands.length; k++) {
            try {
                obey(commands[k]);
            } catch (RuntimeException e) {
                take(before);
                saved.clear();
                saved.addAll(savedBefore);
                return -1000 - k;
            }
        }
        saved.clear();
        saved.addAll(savedBefore);
        keep(before);
        return commands.length;
    }

    private static boolean canGoOn(String start) {
        Matcher m = COMMANDS.matcher(start);
        return m.matches() || m.hitEnd();
    }

    private void obey(String command) {
        String[] parts = command.substring(1).split(",");
        int[] n = new int[3];
        for (int k = 0; k < parts.length; k++) {
            n[k] = Integer.parseInt(parts[k]);
        }
        switch (command.charAt(0)) {
            case 'a' -> add(n[0]);
            case 'p' -> setPhase(n[0], n[1]);
            case 'l' -> link(n[0], n[1], n[2]);
            case 'b' -> blink(n[0], n[1], n[2]);
            default -> tick(n[0]);
        }
    }

    private void save() {
        keep(copy());
    }

    private void keep(Oracle o) {
        saved.addLast(o);
        if (saved.size() > 4) {
            saved.removeFirst();
        }
    }

    public int undo() {
        state(!saved.isEmpty());
        take(saved.removeLast());
        return saved.size();
    }

    public long digest() {
        List<Integer> v = new ArrayList<>(List.of(period, window, strength, kind, now(), clocks()));
        for (int c = 0; c < clocks(); c++) {
            for (int what = 0; what <= 6; what++) {
                v.add(clock(c, what));
            }
            for (int other = 0; other < clocks(); other++) {
                v.add(linkOf(c, other));
            }
        }
        v.addAll(List.of(fired(), underWay(), groups()));
        groupMap().forEach((phase, members) -> v.addAll(List.of(phase, members)));
        v.add(spread());
        for (int k = 0; k < 60 && k < log.size(); k++) {
            v.addAll(List.of(noted(k, true), noted(k, false)));
        }
        v.addAll(List.of(text.length(), saved.size()));
        long h = 1858;
        for (int x : v) {
            h = 31 * h + x;
        }
        return h;
    }

    // ---- exceptions

    private void exists(int clock) {
        if (clock < 0 || clock >= all.size()) {
            throw new IndexOutOfBoundsException();
        }
    }

    private static void argument(boolean fits) {
        if (!fits) {
            throw new IllegalArgumentException();
        }
    }

    private static void state(boolean fits) {
        if (!fits) {
            throw new IllegalStateException();
        }
    }
}

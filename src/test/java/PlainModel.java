import java.util.ArrayList;
import java.util.HashMap;
import java.util.HashSet;
import java.util.List;
import java.util.Map;
import java.util.Set;

/**
 * The document once more, in its plainest form: no short cuts, with the Java library, machine
 * exceptions and all. ModelTest holds DropsDance against it.
 */
final class PlainModel {
    static final int BAD = -1, STATE = -2, FULL = -3, NONE = -4;
    private static final String NAMES = "neswpxoc";
    private static final List<String> RULE_NAMES = List.of("up", "down", "teeth", "", "leap", "chimney", "hiss", "film", "roll");
    private static final int[] LEAST = {1, 0, 1, 1, 0, 1, 1, 1, 0}, MOST = {99, 99, 60, 60, 9, 99, 50, 9, 60};

    private static final class Fault extends Exception {
        private static final long serialVersionUID = 1;
        final int number, place;

        Fault(int number, int place) {
            this.number = number;
            this.place = place;
        }
    }

    private static final class Water {
        int cell, size, way, gone, tick = NONE, joined = NONE;

        Water(int cell, int size, int way) {
            this.cell = cell;
            this.size = size;
            this.way = way;
        }

        Water copy() {
            Water w = new Water(cell, size, way);
            w.gone = gone;
            w.tick = tick;
            w.joined = joined;
            return w;
        }
    }

    private static final class World {
        int[] plate = plain();
        List<Water> drops = new ArrayList<>();
        int heat, tick, seed, steam, fallen, leapt, all;
        boolean floats;

        World copy() {
            World w = new World();
            w.plate = plate.clone();
            for (Water d : drops) {
                w.drops.add(d.copy());
            }
            w.heat = heat;
            w.tick = tick;
            w.seed = seed;
            w.steam = steam;
            w.fallen = fallen;
            w.leapt = leapt;
            w.all = all;
            w.floats = floats;
            return w;
        }
    }

    private static int[] plain() {
        int[] p = new int[96];
        java.util.Arrays.fill(p, 4);
        return p;
    }

    private final StringBuilder tape = new StringBuilder();
    private int fault, torn;
    private int[] rules = {60, 40, 1, 60, 0, 40, 10, 3, 0};
    private World world = new World();
    private final World[] images = new World[2];
    private final List<int[]> lives = new ArrayList<>();
    private final Object[] sheets = new Object[4];

    private static boolean in(long v, long a, long b) {
        return a <= v && v <= b;
    }

    // ---- the text

    int feed(long v) {
        if (tape.length() + 8 > 320) {
            return FULL;
        }
        for (int shift = 56; shift >= 0; shift -= 8) {
            tape.append((char) (v >> shift & 255));
        }
        return tape.length();
    }

    int end(int n) {
        if (!in(n, 0, tape.length())) {
            return BAD;
        }
        int had = tape.length();
        tape.setLength(n);
        return had;
    }

    /** TOKENS one by one: {first byte, byte behind}. */
    private int[] token(String s, int from) throws Fault {
        int i = from;
        while (i < s.length() && s.charAt(i) == ' ') {
            i++;
        }
        if (i == s.length()) {
            return new int[] {i, i};
        }
        for (String kind : List.of("[a-z]+", "[0-9]+", ";")) {
            java.util.regex.Matcher m = java.util.regex.Pattern.compile(kind).matcher(s);
            m.region(i, s.length());
            if (m.lookingAt()) {
                if (kind.startsWith("[0") && m.end() - i > 2) {
                    throw new Fault(1, i);
                }
                return new int[] {i, m.end()};
            }
        }
        throw new Fault(1, i);
    }

    int text() {
        String s = tape.toString();
        tape.setLength(0);
        int[] newRules = {60, 40, 1, 60, 0, 40, 10, 3, 0};
        int[] newPlate = plain();
        int lines;
        try {
            lines = parse(s, newRules, newPlate);
        } catch (Fault f) {
            fault = f.number;
            return -10 - f.place;
        }
        fault = 0;
        rules = newRules;
        int seed = world.seed;
        world = new World();
        world.seed = seed;
        world.plate = newPlate;
        images[0] = null;
        images[1] = null;
        lives.clear();
        return lines;
    }

    private int parse(String s, int[] newRules, int[] newPlate) throws Fault {
        Set<String> told = new HashSet<>();
        int rows = 0, lines = 0, place = 0;
        while (true) {
            int[] t = token(s, place);
            if (t[0] == s.length()) {
                break;
            }
            String name = s.substring(t[0], t[1]);
            if (name.equals("row")) {
                if (rows == 8) {
                    throw new Fault(5, t[0]);
                }
                t = token(s, t[1]);
                String row = s.substring(t[0], t[1]);
                if (!row.matches("[a-z]+")) {
                    throw new Fault(2, t[0]);
                }
                if (!row.matches("[neswpxoc]{12}")) {
                    throw new Fault(3, t[0]);
                }
                for (int i = 0; i < 12; i++) {
                    newPlate[12 * rows + i] = NAMES.indexOf(row.charAt(i));
                }
                rows++;
            } else {
                if (name.isEmpty() || !RULE_NAMES.contains(name)) {
                    throw new Fault(2, t[0]);
                }
                if (!told.add(name)) {
                    throw new Fault(4, t[0]);
                }
                int rule = RULE_NAMES.indexOf(name);
                for (int r = rule; r <= (rule == 2 ? 3 : rule); r++) {
                    t = token(s, t[1]);
                    String number = s.substring(t[0], t[1]);
                    if (!number.matches("[0-9]+")) {
                        throw new Fault(2, t[0]);
                    }
                    int v = Integer.parseInt(number);
                    if (v < LEAST[r] || v > MOST[r] || r == 3 && v < newRules[2]) {
                        throw new Fault(3, t[0]);
                    }
                    newRules[r] = v;
                }
            }
            t = token(s, t[1]);
            if (!s.substring(t[0], t[1]).equals(";")) {
                throw new Fault(2, t[0]);
            }
            place = t[1];
            lines++;
        }
        if (newRules[1] > newRules[0]) {
            throw new Fault(6, s.length());
        }
        return lines;
    }

    int fault() {
        return fault;
    }

    int rule(int what) {
        return in(what, 0, 8) ? rules[what] : BAD;
    }

    int cell(int c) {
        return in(c, 0, 95) ? world.plate[c] : BAD;
    }

    int put(int c, int v) {
        if (!in(c, 0, 95) || !in(v, 0, 7)) {
            return BAD;
        }
        if (at(c) != NONE && (v == 5 || v == 6)) {
            return STATE;
        }
        int was = world.plate[c];
        world.plate[c] = v;
        return was;
    }

    // ---- the plate, drops

    int heat(int h) {
        if (!in(h, 0, 99)) {
            return BAD;
        }
        if (world.floats && h < rules[1]) {
            world.floats = false;
        } else if (!world.floats && h >= rules[0]) {
            world.floats = true;
        }
        world.heat = h;
        return world.floats ? 1 : 0;
    }

    int drop(int c, int size, int way) {
        if (!in(c, 0, 95) || !in(size, 1, 60) || !in(way, 0, 3)) {
            return BAD;
        }
        if (world.plate[c] == 5 || world.plate[c] == 6 || at(c) != NONE) {
            return STATE;
        }
        if (world.drops.size() == 12) {
            return FULL;
        }
        world.drops.add(new Water(c, size, way));
        world.all += size;
        return world.drops.size() - 1;
    }

    int go(int n) {
        if (!in(n, 1, 200)) {
            return BAD;
        }
        for (int i = 0; i < n; i++) {
            tick(world, rules, rules[8]);
        }
        return count(1);
    }

    private static int beyond(int[] plate, int c, int way) {
        int row = c / 12 + new int[] {-1, 0, 1, 0}[way], column = c % 12 + new int[] {0, 1, 0, -1}[way];
        return in(row, 0, 7) && in(column, 0, 11) && plate[12 * row + column] != 5 ? 12 * row + column : -1;
    }

    private static void tick(World w, int[] rules, int roll) {
        for (Water d : w.drops) {
            if (d.gone != 0) {
                continue;
            }
            boolean touches = !w.floats || w.plate[d.cell] == 7;
            int loss = 0;
            if (touches) {
                loss = 1 + w.heat / rules[6];
            } else if (w.tick % rules[7] == 0) {
                loss = d.size >= rules[5] ? 2 : 1;
            }
            loss = Math.min(loss, d.size);
            d.size -= loss;
            w.steam += loss;
            if (d.size == 0) {
                d.gone = 1;
                d.tick = w.tick;
                continue;
            }
            if (touches) {
                continue;
            }
            if (d.size <= rules[4]) {
                w.leapt += d.size;
                d.gone = 3;
                d.tick = w.tick;
                continue;
            }
            int kind = w.plate[d.cell], way = d.way;
            if (kind < 4 && d.size >= rules[2] && d.size <= rules[3]) {
                way = kind;
            } else if (d.size <= roll && kind >= 4) {
                w.seed = w.seed * 1103515245 + 12345;
                way = w.seed >> 16 & 3;
            }
            int next = beyond(w.plate, d.cell, way);
            if (next < 0) {
                d.way = way == 3 ? 0 : way + 1;
                continue;
            }
            Water other = null;
            for (Water o : w.drops) {
                if (o.gone == 0 && o.cell == next) {
                    other = o;
                }
            }
            d.cell = next;
            d.way = way;
            if (w.plate[next] == 6) {
                d.gone = 2;
                d.tick = w.tick;
                w.fallen += d.size;
            } else if (other != null) {
                other.size += d.size;
                d.gone = 4;
                d.tick = w.tick;
                d.joined = w.drops.indexOf(other);
            }
        }
        w.tick++;
    }

    int seed(int v) {
        int was = world.seed;
        world.seed = v;
        return was;
    }

    int of(int d, int what) {
        if (!in(d, 0, world.drops.size() - 1) || !in(what, 0, 5)) {
            return BAD;
        }
        Water w = world.drops.get(d);
        return new int[] {w.cell, w.size, w.way, w.gone, w.tick, w.joined}[what];
    }

    int at(int c) {
        if (!in(c, 0, 95)) {
            return BAD;
        }
        for (int i = 0; i < world.drops.size(); i++) {
            if (world.drops.get(i).gone == 0 && world.drops.get(i).cell == c) {
                return i;
            }
        }
        return NONE;
    }

    int now(int what) {
        if (!in(what, 0, 7)) {
            return BAD;
        }
        int sizes = world.drops.stream().filter(d -> d.gone == 0).mapToInt(d -> d.size).sum();
        return new int[] {world.tick, world.heat, world.floats ? 1 : 0, sizes, world.steam, world.fallen, world.leapt, world.all}[what];
    }

    int points(int d) {
        if (!in(d, 0, world.drops.size() - 1)) {
            return BAD;
        }
        Water w = world.drops.get(d);
        if (w.gone != 0) {
            return NONE;
        }
        boolean still = !world.floats || world.plate[w.cell] == 7 || w.size >= rules[5];
        return still ? 0 : 3 + w.size / 10 * 2;
    }

    int keep(int i) {
        if (!in(i, 0, 1)) {
            return BAD;
        }
        int was = images[i] == null ? 0 : 1;
        images[i] = world.copy();
        return was;
    }

    int back(int i) {
        if (!in(i, 0, 1)) {
            return BAD;
        }
        if (images[i] == null) {
            return STATE;
        }
        world = images[i].copy();
        return world.tick;
    }

    // ---- one by itself

    private boolean shut(int c) {
        return world.plate[c] == 5 || world.plate[c] == 6;
    }

    private World lone(int[] plate, int c, int size, int way) {
        World w = new World();
        w.plate = plate;
        w.heat = world.heat;
        w.floats = world.floats;
        w.drops.add(new Water(c, size, way));
        return w;
    }

    private static boolean bad(int c, int size, int way) {
        return !in(c, 0, 95) || !in(size, 1, 60) || !in(way, 0, 3);
    }

    int alone(int c, int size, int way, int n, int what) {
        if (bad(c, size, way) || !in(n, 0, 400) || !in(what, 0, 3)) {
            return BAD;
        }
        if (shut(c)) {
            return STATE;
        }
        World w = lone(world.plate, c, size, way);
        for (int i = 0; i < n; i++) {
            tick(w, rules, 0);
        }
        Water d = w.drops.get(0);
        return new int[] {d.cell, d.size, d.gone, d.tick}[what];
    }

    private int reachOn(int[] plate, int c, int size, int way, int goal) {
        World w = lone(plate, c, size, way);
        Water d = w.drops.get(0);
        for (int t = 0; t <= 400; t++) {
            if (d.cell == goal && (d.gone == 0 || d.gone == 2)) {
                return t;
            }
            tick(w, rules, 0);
        }
        return NONE;
    }

    int reach(int c, int size, int way, int goal) {
        if (bad(c, size, way) || !in(goal, 0, 95)) {
            return BAD;
        }
        return shut(c) ? STATE : reachOn(world.plate, c, size, way, goal);
    }

    /** CELL and WAY behind each TICK, till both come again or it falls. */
    private List<Integer> path(int c, int size, int way) {
        List<Integer> states = new ArrayList<>();
        int state = 4 * c + way;
        while (!states.contains(state)) {
            states.add(state);
            int cell = state / 4, w = state % 4;
            if (world.plate[cell] == 6) {
                return states;
            }
            if (world.plate[cell] < 4 && in(size, rules[2], rules[3])) {
                w = world.plate[cell];
            }
            int next = beyond(world.plate, cell, w);
            state = next < 0 ? 4 * cell + (w + 1) % 4 : 4 * next + w;
        }
        states.add(state);
        return states;
    }

    int ring(int c, int size, int way, int what) {
        if (bad(c, size, way) || !in(what, 0, 2)) {
            return BAD;
        }
        if (shut(c)) {
            return STATE;
        }
        List<Integer> states = path(c, size, way);
        int last = states.get(states.size() - 1);
        if (world.plate[last / 4] == 6) {
            return NONE;
        }
        int first = states.indexOf(last);
        Set<Integer> cells = new HashSet<>();
        for (int i = first; i < states.size(); i++) {
            cells.add(states.get(i) / 4);
        }
        return new int[] {first, states.size() - 1 - first, cells.size()}[what];
    }

    long falls(int c, int way, int goal) {
        if (!in(c, 0, 95) || !in(way, 0, 3) || !in(goal, 0, 95)) {
            return BAD;
        }
        if (shut(c) || world.plate[goal] != 6) {
            return STATE;
        }
        long sizes = 0;
        for (int size = 1; size <= 60; size++) {
            List<Integer> states = path(c, size, way);
            if (states.get(states.size() - 1) / 4 == goal) {
                sizes += 1L << size;
            }
        }
        return sizes;
    }

    int mend(int c, int size, int way, int goal, int what) {
        if (bad(c, size, way) || !in(goal, 0, 95) || !in(what, 0, 2)) {
            return BAD;
        }
        if (shut(c)) {
            return STATE;
        }
        int as = reachOn(world.plate, c, size, way, goal);
        int[] best = {as == NONE ? 1000 : as, NONE, NONE};
        for (int x = 0; x < 96; x++) {
            for (int v = 0; v < 5 && world.plate[x] < 5; v++) {
                if (v != world.plate[x]) {
                    int[] plate = world.plate.clone();
                    plate[x] = v;
                    int t = reachOn(plate, c, size, way, goal);
                    if (t != NONE && t < best[0]) {
                        best = new int[] {t, x, v};
                    }
                }
            }
        }
        return best[1] == NONE ? NONE : best[what];
    }

    // ---- lives, heats

    private int lifeOf(int[] withRules, int size, int heat, boolean up) {
        World w = new World();
        w.heat = heat;
        w.floats = up ? heat >= withRules[0] : heat >= withRules[1];
        w.drops.add(new Water(0, size, 1));
        int n = 0;
        while (w.drops.get(0).gone == 0) {
            tick(w, withRules, 0);
            n++;
        }
        return n;
    }

    int life(int size, int heat, boolean up) {
        return in(size, 1, 60) && in(heat, 0, 99) ? lifeOf(rules, size, heat, up) : BAD;
    }

    int hump(int size, boolean up, int what) {
        if (!in(size, 1, 60) || !in(what, 0, 3)) {
            return BAD;
        }
        int[] l = new int[100];
        for (int h = 0; h < 100; h++) {
            l[h] = lifeOf(rules, size, h, up);
        }
        int top = 0, shortest = Integer.MAX_VALUE, longer = NONE;
        for (int h = 99; h >= 0; h--) {
            top = l[h] >= l[top] ? h : top;
            shortest = h > 0 ? Math.min(shortest, l[h]) : shortest;
            longer = h > 0 && l[h] > l[h - 1] ? h : longer;
        }
        return new int[] {top, l[top], shortest, longer}[what];
    }

    int hot(int size, int life, boolean up, int what) {
        if (!in(size, 1, 60) || !in(life, 0, 999) || !in(what, 0, 2)) {
            return BAD;
        }
        List<Integer> heats = new ArrayList<>();
        for (int h = 0; h < 100; h++) {
            if (lifeOf(rules, size, h, up) == life) {
                heats.add(h);
            }
        }
        return told(heats, what);
    }

    private static int told(List<Integer> list, int what) {
        return what == 0 ? list.size() : list.isEmpty() ? NONE : list.get(what == 1 ? 0 : list.size() - 1);
    }

    /** How many of 4 to the power of n courses from here on come to the goal. */
    private long courses(int c, int goal, int n, Map<Integer, Long> known) {
        if (c == goal) {
            return 1L << 2 * n;
        }
        if (n == 0) {
            return 0;
        }
        Long before = known.get(c * 11 + n);
        if (before != null) {
            return before;
        }
        long sum = 0;
        for (int way = 0; way < 4; way++) {
            int to = world.plate[c] == 6 ? -1 : beyond(world.plate, c, world.plate[c] < 4 ? world.plate[c] : way);
            sum += courses(to < 0 ? c : to, goal, n - 1, known);
        }
        known.put(c * 11 + n, sum);
        return sum;
    }

    long odds(int c, int goal, int n, int what) {
        if (!in(c, 0, 95) || !in(goal, 0, 95) || !in(n, 0, 10) || !in(what, 0, 1)) {
            return BAD;
        }
        if (world.plate[c] == 5) {
            return STATE;
        }
        java.math.BigInteger a = java.math.BigInteger.valueOf(courses(c, goal, n, new HashMap<>()));
        java.math.BigInteger b = java.math.BigInteger.valueOf(1L << 2 * n);
        return (what == 0 ? a : b).divide(a.gcd(b)).longValueExact();
    }

    int cools(int heat, int t, int what) {
        if (!in(heat, 0, 99) || !in(t, 0, 99) || !in(what, 0, 1)) {
            return BAD;
        }
        int h = heat, ticks = 0, floating = 0;
        boolean floats = heat >= rules[1];
        while (h > t) {
            ticks++;
            floating += floats ? 1 : 0;
            h = Math.max(0, floats ? h - 1 : h - 1 - h / rules[6]);
            floats = floats && h >= rules[1];
        }
        return what == 0 ? ticks : floating;
    }

    // ---- told lives

    int saw(int size, int heat, boolean up, int life) {
        if (!in(size, 1, 60) || !in(heat, 0, 99) || !in(life, 0, 999)) {
            return BAD;
        }
        if (lives.size() == 12) {
            return FULL;
        }
        lives.add(new int[] {size, heat, up ? 1 : 0, life});
        return lives.size();
    }

    int forget() {
        int were = lives.size();
        lives.clear();
        return were;
    }

    int fits(int what) {
        if (!in(what, 0, 2)) {
            return BAD;
        }
        List<Integer> ups = new ArrayList<>();
        for (int up = Math.max(1, rules[1]); up <= 99; up++) {
            int[] r = rules.clone();
            r[0] = up;
            if (lives.stream().allMatch(l -> lifeOf(r, l[0], l[1], l[2] == 1) == l[3])) {
                ups.add(up);
            }
        }
        return told(ups, what);
    }

    int right() {
        int bits = 0;
        for (int i = 0; i < lives.size(); i++) {
            int[] l = lives.get(i);
            bits += lifeOf(rules, l[0], l[1], l[2] == 1) == l[3] ? 1 << i : 0;
        }
        return bits;
    }

    // ---- sheets

    int sheet(int k, int lane, int n) {
        if (!in(k, 0, 3) || !in(lane, 0, 2) || n > 40) {
            return BAD;
        }
        try {
            sheets[k] = lane == 0 ? new byte[n] : lane == 1 ? new short[n] : new int[n];
            return 1;
        } catch (NegativeArraySizeException e) {
            return -14;
        }
    }

    int lay(int k, int i, int v) {
        if (!in(k, 0, 3)) {
            return BAD;
        }
        try {
            if (sheets[k] instanceof byte[] b) {
                b[i] = (byte) v;
            } else if (sheets[k] instanceof short[] s) {
                s[i] = (short) v;
            } else {
                ((int[]) sheets[k])[i] = v;
            }
            return 1;
        } catch (NullPointerException e) {
            return -11;
        } catch (ArrayIndexOutOfBoundsException e) {
            return -12;
        }
    }

    int read(int k, int lane, int f, int n) {
        if (!in(k, 0, 3) || !in(lane, 0, 2) || !in(n, 0, 12)) {
            return BAD;
        }
        World before = world.copy();
        int came = 0, found = 0;
        try {
            for (int i = 0; i < n; i++) {
                int[] three = new int[3];
                for (int j = 0; j < 3; j++) {
                    int place = f + 3 * i + j;
                    three[j] = lane == 0 ? ((byte[]) sheets[k])[place] : lane == 1 ? ((short[]) sheets[k])[place] : ((int[]) sheets[k])[place];
                }
                int answer = drop(three[0], three[1], three[2]);
                if (answer < 0) {
                    world = before;
                    return answer == FULL ? FULL : -20 - i;
                }
                came++;
            }
        } catch (NullPointerException e) {
            found = 1;
        } catch (ArrayIndexOutOfBoundsException e) {
            found = 2;
        } catch (ClassCastException e) {
            found = 3;
        }
        torn = found;
        return came;
    }

    int torn() {
        return torn;
    }

    int count(int what) {
        switch (what) {
            case 0: return world.drops.size();
            case 1: return (int) world.drops.stream().filter(d -> d.gone == 0).count();
            case 2: return lives.size();
            case 3: return (images[0] == null ? 0 : 1) + (images[1] == null ? 0 : 1);
            case 4: return (int) java.util.Arrays.stream(world.plate).filter(v -> v == 6).count();
            case 5: return tape.length();
            case 6: return sheets[0] == null ? NONE : java.lang.reflect.Array.getLength(sheets[0]);
            default: return BAD;
        }
    }
}

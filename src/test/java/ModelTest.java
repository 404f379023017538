import java.util.Random;

/** Runs of drawn calls (the same ones each time) on DropsDance and on PlainModel: each answer is the same. */
public final class ModelTest {
    private static final int RUNS = 1500, CALLS = 120;
    private static final Check CHECK = new Check();
    private static final int[] ODD = {-1, Integer.MIN_VALUE, Integer.MAX_VALUE, 96, 100, 61, 1000, 401, 201, -2, 8, 9, 12, 13, 41};

    private final Random random;
    private final DropsDance x = new DropsDance();
    private final PlainModel m = new PlainModel();
    private final String run;

    private ModelTest(int number) {
        random = new Random(number * 7919L + 5);
        run = "run " + number + ": ";
    }

    public static void main(String[] args) {
        for (int i = 0; i < RUNS; i++) {
            ModelTest test = new ModelTest(i);
            for (int call = 0; call < CALLS; call++) {
                test.step();
            }
            test.lookAtAll();
        }
        CHECK.end("ModelTest");
    }

    /** From least to most; seldom what is beyond. */
    private int pick(int least, int most) {
        if (random.nextInt(40) == 0) {
            return random.nextBoolean() ? ODD[random.nextInt(ODD.length)] : random.nextBoolean() ? most + 1 : least - 1;
        }
        return least + random.nextInt(most - least + 1);
    }

    private int cell() {
        // Few CELLS, so that drops meet.
        return random.nextInt(3) == 0 ? pick(0, 95) : pick(0, 30);
    }

    private int size() {
        return random.nextBoolean() ? pick(1, 60) : pick(1, 12);
    }

    private void due(String call, long got, long want) {
        CHECK.due(run + call, got, want);
    }

    private void step() {
        int c = cell(), goal = cell(), size = size(), way = pick(0, 3), h = pick(0, 99), what = pick(0, 4);
        boolean up = random.nextBoolean();
        switch (random.nextInt(36)) {
            case 0: tell(); break;
            case 1: due("rule", x.rule(h), m.rule(h)); break;
            case 2: due("cell " + c, x.cell(c), m.cell(c)); break;
            case 3: case 4: case 5: put(c); break;
            case 6: case 7: due("heat " + h, x.heat(h), m.heat(h)); break;
            case 8: case 9: case 10: due("drop " + c + " " + size + " " + way, x.drop(c, size, way), m.drop(c, size, way)); break;
            case 11: case 12: case 13: go(); break;
            case 14: seed(); break;
            case 15: of(); break;
            case 16: due("at " + c, x.at(c), m.at(c)); break;
            case 17: due("now " + size % 9, x.now(size % 9), m.now(size % 9)); break;
            case 18: due("points " + way, x.points(way), m.points(way)); break;
            case 19: images(); break;
            case 20: alone(c, size, way); break;
            case 21: due("reach " + c + " " + size + " " + way + " " + goal, x.reach(c, size, way, goal), m.reach(c, size, way, goal)); break;
            case 22: due("ring " + c + " " + size + " " + way + " " + what, x.ring(c, size, way, what), m.ring(c, size, way, what)); break;
            case 23: falls(c, way); break;
            case 24: mend(c, size, way, goal); break;
            case 25: due("life " + size + " " + h, x.life(size, h, up), m.life(size, h, up)); break;
            case 26: due("hump " + size + " " + what, x.hump(size, up, what), m.hump(size, up, what)); break;
            case 27: hot(size, h, up); break;
            case 28: odds(c, goal); break;
            case 29: due("cools " + h + " " + goal, x.cools(h, goal, what), m.cools(h, goal, what)); break;
            case 30: saw(size, h, up); break;
            case 31: due("fits " + what, x.fits(what), m.fits(what)); due("right", x.right(), m.right()); break;
            case 32: sheet(); break;
            case 33: case 34: fillAndRead(); break;
            default: rare(); break;
        }
    }

    private void put(int c) {
        int v = random.nextInt(3) == 0 ? pick(0, 7) : pick(0, 4);
        due("put " + c + " " + v, x.put(c, v), m.put(c, v));
    }

    private void go() {
        int n = random.nextInt(4) == 0 ? pick(1, 200) : pick(1, 4);
        due("go " + n, x.go(n), m.go(n));
        for (int what = 0; what < 8; what++) {
            due("now " + what, x.now(what), m.now(what));
        }
        due("all water", x.now(3) + x.now(4) + x.now(5) + x.now(6), x.now(7));
    }

    private void seed() {
        int v = random.nextInt();
        due("seed", x.seed(v), m.seed(v));
    }

    private void of() {
        int d = pick(0, 11), what = pick(0, 5);
        due("of " + d + " " + what, x.of(d, what), m.of(d, what));
    }

    private void images() {
        int i = pick(0, 1);
        if (random.nextBoolean()) {
            due("keep " + i, x.keep(i), m.keep(i));
        } else {
            due("back " + i, x.back(i), m.back(i));
        }
    }

    private void alone(int c, int size, int way) {
        int n = random.nextBoolean() ? pick(0, 400) : pick(0, 30), what = pick(0, 3);
        due("alone " + c + " " + size + " " + way + " " + n + " " + what, x.alone(c, size, way, n, what), m.alone(c, size, way, n, what));
    }

    private void falls(int c, int way) {
        for (int goal = 0; goal < 96; goal++) {
            if (m.cell(goal) == 6 || goal == c) {
                due("falls " + c + " " + way + " " + goal, x.falls(c, way, goal), m.falls(c, way, goal));
            }
        }
    }

    private void mend(int c, int size, int way, int goal) {
        if (random.nextInt(4) == 0) {
            for (int what = 0; what < 3; what++) {
                due("mend " + c + " " + size + " " + way + " " + goal + " " + what, x.mend(c, size, way, goal, what), m.mend(c, size, way, goal, what));
            }
        }
    }

    private void hot(int size, int h, boolean up) {
        int life = random.nextBoolean() ? Math.max(0, m.life(size, h, up)) : pick(0, 999), what = pick(0, 2);
        due("hot " + size + " " + life + " " + up + " " + what, x.hot(size, life, up, what), m.hot(size, life, up, what));
    }

    private void odds(int c, int goal) {
        int n = pick(0, 10), near = random.nextBoolean() ? goal : c + random.nextInt(5) - 2, what = pick(0, 1);
        due("odds " + c + " " + near + " " + n + " " + what, x.odds(c, near, n, what), m.odds(c, near, n, what));
    }

    private void saw(int size, int h, boolean up) {
        int life = random.nextInt(8) == 0 ? pick(0, 999) : m.life(size, h, up);
        due("saw " + size + " " + h + " " + up + " " + life, x.saw(size, h, up, life), m.saw(size, h, up, life));
        due("right", x.right(), m.right());
    }

    private void sheet() {
        int k = pick(0, 3), lane = pick(0, 2), n = pick(0, 40);
        due("sheet " + k + " " + lane + " " + n, x.sheet(k, lane, n), m.sheet(k, lane, n));
    }

    private void fillAndRead() {
        int k = pick(0, 3), f = random.nextBoolean() ? 0 : pick(0, 9), many = random.nextInt(4);
        for (int i = 0; i < many; i++) {
            int[] three = {cell(), size(), pick(0, 3)};
            for (int j = 0; j < 3; j++) {
                int v = random.nextInt(6) == 0 ? three[j] + 65536 * random.nextInt(3) : three[j], place = f + 3 * i + j;
                due("lay " + k + " " + place + " " + v, x.lay(k, place, v), m.lay(k, place, v));
            }
        }
        int lane = pick(0, 2), n = random.nextInt(4) == 0 ? pick(0, 12) : many;
        due("read " + k + " " + lane + " " + f + " " + n, x.read(k, lane, f, n), m.read(k, lane, f, n));
        due("torn", x.torn(), m.torn());
        due("count 0", x.count(0), m.count(0));
    }

    private void rare() {
        if (random.nextInt(4) == 0) {
            due("forget", x.forget(), m.forget());
        }
        int what = pick(0, 6), n = pick(0, 60);
        due("count " + what, x.count(what), m.count(what));
        due("end " + n, x.end(n), m.end(n));
        long v = random.nextLong();
        due("feed " + v, x.feed(v), m.feed(v));
    }

    private void tell() {
        String text = drawText();
        due("end 0", x.end(0), m.end(0));
        for (int i = 0; i < text.length(); i += 8) {
            long v = 0;
            for (int j = 0; j < 8; j++) {
                v = v << 8 | (i + j < text.length() ? text.charAt(i + j) : ' ');
            }
            due("feed", x.feed(v), m.feed(v));
        }
        due("end", x.end(text.length()), m.end(text.length()));
        due("text \"" + text + "\"", x.text(), m.text());
        due("fault of \"" + text + "\"", x.fault(), m.fault());
        lookAtAll();
    }

    private String drawText() {
        String[] names = {"up", "down", "teeth", "leap", "chimney", "hiss", "film", "roll"};
        int[][] most = {{random.nextBoolean() ? 1 : 60, 99}, {0, random.nextBoolean() ? 3 : 60}, {1, 30}, {0, 9}, {1, 99}, {1, 50}, {1, 9}, {0, 60}};
        StringBuilder b = new StringBuilder();
        int rows = random.nextInt(5) == 0 ? random.nextInt(10) : random.nextInt(4), lines = random.nextInt(8), used = 0;
        for (int i = 0; i < rows + lines; i++) {
            if (random.nextInt(rows + lines) < rows) {
                b.append("row ").append(drawRow()).append(';');
            } else {
                int r = random.nextInt(8);
                if ((used >> r & 1) == 1 && random.nextInt(12) != 0) {
                    continue;
                }
                used |= 1 << r;
                int v = pick(most[r][0], most[r][1]) & 127;
                b.append(names[r]).append(' ').append(v).append(r == 2 ? " " + (v + random.nextInt(31)) : "").append(';');
            }
            if (random.nextInt(6) == 0) {
                b.append(' ');
            }
        }
        for (int i = 0; b.length() > 0 && i < 3 && random.nextInt(6) == 0; i++) {
            spoil(b);
        }
        b.setLength(Math.min(b.length(), 320));
        return b.toString();
    }

    private String drawRow() {
        StringBuilder row = new StringBuilder();
        for (int i = 0; i < 12; i++) {
            row.append("neswppppppppppppxoc".charAt(random.nextInt(19)));
        }
        return row.toString();
    }

    private void spoil(StringBuilder b) {
        int place = random.nextInt(b.length());
        char sign = "p;5 0!a\t".charAt(random.nextInt(8));
        switch (random.nextInt(4)) {
            case 0: b.setCharAt(place, sign); break;
            case 1: b.insert(place, sign); break;
            case 2: b.deleteCharAt(place); break;
            default: b.setLength(place); break;
        }
    }

    private void lookAtAll() {
        for (int c = 0; c < 96; c++) {
            due("cell " + c, x.cell(c), m.cell(c));
            due("at " + c, x.at(c), m.at(c));
        }
        for (int i = 0; i < 12; i++) {
            due("rule " + i, x.rule(i), m.rule(i));
            due("now " + i, x.now(i), m.now(i));
            due("count " + i, x.count(i), m.count(i));
            due("points " + i, x.points(i), m.points(i));
            for (int what = 0; what < 6; what++) {
                due("of " + i + " " + what, x.of(i, what), m.of(i, what));
            }
        }
    }
}

/** The edges of promises 9 to 18 and of a TICK: each case with its neighbours, and what a refused call leaves. */
public final class EdgePlateTest {
    private static final Check CHECK = new Check();
    private static final int LOW = Integer.MIN_VALUE, HIGH = Integer.MAX_VALUE;

    public static void main(String[] args) {
        heatBounds();
        heatUpAndDown();
        dropBounds();
        dropStateAndFull();
        goBounds();
        goHissAway();
        goFilm();
        goChimney();
        goLeap();
        goTeeth();
        goRoll();
        goBeyondThePlate();
        goWallAndHole();
        goJoin();
        goDropByDrop();
        seed();
        ofBounds();
        ofWhatItHad();
        at();
        now();
        pointsBounds();
        pointsBySize();
        keepAndBack();
        CHECK.end("EdgePlateTest");
    }

    private static Stays busy() {
        return new Stays(CHECK, "busy", Stays::busy);
    }

    private static DropsDance hot(String text) {
        DropsDance x = Check.told(text);
        x.heat(99);
        return x;
    }

    /** Behind TICK 0, so that film 9 takes nothing for the next eight. */
    private static DropsDance lossless(String text) {
        DropsDance x = hot("film 9;" + text);
        x.go(1);
        return x;
    }

    private static void isAt(String when, DropsDance x, int d, int cell, int size, int way) {
        CHECK.due(when + ": cell of " + d, x.of(d, 0), cell);
        CHECK.due(when + ": size of " + d, x.of(d, 1), size);
        CHECK.due(when + ": way of " + d, x.of(d, 2), way);
        CHECK.due(when + ": " + d + " is there", x.of(d, 3), 0);
    }

    private static void isGone(String when, DropsDance x, int d, int size, int how, int tick) {
        CHECK.due(when + ": size of " + d, x.of(d, 1), size);
        CHECK.due(when + ": how " + d + " is gone", x.of(d, 3), how);
        CHECK.due(when + ": tick in which " + d + " is gone", x.of(d, 4), tick);
    }

    /** Promise 9: BAD; HEAT is 0 to 99. */
    private static void heatBounds() {
        Stays s = busy();
        for (int h : new int[] {LOW, -2, -1, 100, 101, HIGH}) {
            s.due("heat(" + h + ")", x -> x.heat(h), -1);
        }
        s.due("heat(70), as it is", x -> x.heat(70), 1);
        for (int h : new int[] {0, 1, 98, 99}) {
            DropsDance x = new DropsDance();
            CHECK.due("heat(" + h + ")", x.heat(h), h < 60 ? 0 : 1);
            CHECK.due("now(1)", x.now(1), h);
        }
    }

    /** From up on, if HEAT comes from below; as long as it is down or more, when it floats. */
    private static void heatUpAndDown() {
        int[][] rules = {{60, 40}, {60, 60}, {60, 59}, {99, 99}, {99, 0}, {1, 0}, {1, 1}, {2, 1}, {50, 0}};
        for (int[] r : rules) {
            for (int first = 0; first <= 99; first++) {
                for (int next : new int[] {0, r[1] - 1, r[1], r[1] + 1, r[0] - 1, r[0], r[0] + 1, 99}) {
                    if (next < 0 || next > 99) {
                        continue;
                    }
                    DropsDance x = Check.told("up " + r[0] + ";down " + r[1] + ";");
                    boolean floats = first >= r[0], then = floats ? next >= r[1] : next >= r[0];
                    CHECK.due("up " + r[0] + " heat(" + first + ")", x.heat(first), floats ? 1 : 0);
                    CHECK.due("down " + r[1] + " then heat(" + next + ")", x.heat(next), then ? 1 : 0);
                    CHECK.due("now(2)", x.now(2), then ? 1 : 0);
                }
            }
        }
    }

    /** Promise 10: BAD: a CELL 0 to 95, a SIZE 1 to 60, a WAY 0 to 3. */
    private static void dropBounds() {
        Stays s = busy();
        for (int c : new int[] {LOW, -1, 96, HIGH}) {
            s.due("drop(" + c + ", 5, 1)", x -> x.drop(c, 5, 1), -1);
        }
        for (int size : new int[] {LOW, -1, 0, 61, 62, HIGH}) {
            s.due("drop(95, " + size + ", 1)", x -> x.drop(95, size, 1), -1);
        }
        for (int way : new int[] {LOW, -1, 4, 5, HIGH}) {
            s.due("drop(95, 5, " + way + ")", x -> x.drop(95, 5, way), -1);
        }
        for (int[] k : new int[][] {{0, 1, 0}, {1, 2, 1}, {94, 59, 2}, {95, 60, 3}}) {
            DropsDance x = new DropsDance();
            CHECK.due("drop(" + k[0] + ", " + k[1] + ", " + k[2] + ")", x.drop(k[0], k[1], k[2]), 0);
            isAt("set down", x, 0, k[0], k[1], k[2]);
            CHECK.due("all that was set down", x.now(7), k[1]);
            CHECK.due("sizes of those that are there", x.now(3), k[1]);
        }
    }

    /** Promise 10: STATE: a wall, a hole, another one is there; FULL; the first that fits. */
    private static void dropStateAndFull() {
        for (int kind = 0; kind < 8; kind++) {
            for (int c : new int[] {0, 95}) {
                DropsDance x = new DropsDance();
                x.put(c, kind);
                CHECK.due("drop on " + kind, x.drop(c, 5, 1), kind == 5 || kind == 6 ? -2 : 0);
            }
        }
        Stays s = busy();
        s.due("drop on a wall", x -> x.drop(10, 5, 1), -2);
        s.due("drop on a hole", x -> x.drop(5, 5, 1), -2);
        s.due("drop where one is", x -> x.drop(x.of(5, 0), 5, 1), -2);
        s.due("BAD before STATE", x -> x.drop(10, 61, 1), -1);
        s.due("BAD before STATE", x -> x.drop(x.of(5, 0), 5, 4), -1);
        s.changes("drop where one is GONE", x -> x.drop(11, 5, 1), 7);
        s.changes("drop where one leapt", x -> x.drop(40, 5, 1), 7);
        for (int many = 10; many <= 12; many++) {
            DropsDance x = new DropsDance();
            for (int i = 0; i < many; i++) {
                CHECK.due("drop " + i, x.drop(i, 1, 1), i);
            }
            CHECK.due("one more than " + many, x.drop(95, 1, 1), many < 12 ? many : -3);
            CHECK.due("DROPS in all", x.count(0), Math.min(12, many + 1));
        }
        Stays full = new Stays(CHECK, "twelve", x -> {
            Stays.busy(x);
            for (int i = 7; i < 12; i++) {
                x.drop(60 + i, 5, 1);
            }
        });
        full.due("FULL", x -> x.drop(95, 5, 1), -3);
        full.due("STATE before FULL", x -> x.drop(10, 5, 1), -2);
        full.due("STATE before FULL", x -> x.drop(71, 5, 1), -2);
        full.due("BAD before FULL", x -> x.drop(95, 0, 1), -1);
        // Those that are GONE count.
        DropsDance gone = new DropsDance();
        for (int i = 0; i < 12; i++) {
            gone.drop(i, 1, 1);
            gone.go(1);
        }
        CHECK.due("none is there still", gone.count(1), 0);
        CHECK.due("FULL all the same", gone.drop(0, 1, 1), -3);
    }

    /** Promise 11: n TICKS (1 to 200). BAD. */
    private static void goBounds() {
        Stays s = busy();
        for (int n : new int[] {LOW, -1, 0, 201, 202, HIGH}) {
            s.due("go(" + n + ")", x -> x.go(n), -1);
        }
        for (int n : new int[] {1, 2, 199, 200}) {
            DropsDance x = new DropsDance();
            x.drop(0, 60, 1);
            CHECK.due("go(" + n + ")", x.go(n), n < 60 ? 1 : 0);
            CHECK.due("TICK", x.now(0), n);
            CHECK.due("steam", x.now(4), Math.min(n, 60));
        }
        // n TICKS at once are n times one.
        DropsDance once = hot("film 2;roll 9;"), each = hot("film 2;roll 9;");
        for (DropsDance x : new DropsDance[] {once, each}) {
            x.drop(0, 30, 1);
            x.drop(50, 9, 1);
        }
        int there = once.go(30);
        for (int i = 0; i < 30; i++) {
            each.go(1);
        }
        CHECK.due("there", each.count(1), there);
        for (int d = 0; d < 2; d++) {
            for (int what = 0; what < 6; what++) {
                CHECK.due("of(" + d + ", " + what + ")", each.of(d, what), once.of(d, what));
            }
        }
    }

    /** Who TOUCHES loses 1 and HEAT by hiss, divided down, all it has at most; at SIZE 0 it is GONE; it does not move. */
    private static void goHissAway() {
        int[][] loss = {{0, 1}, {9, 1}, {10, 2}, {11, 2}, {19, 2}, {20, 3}, {39, 4}, {59, 6}};
        for (int[] k : loss) {
            for (int size = Math.max(1, k[1] - 1); size <= k[1] + 1; size++) {
                DropsDance x = new DropsDance();
                x.heat(k[0]);
                x.drop(50, size, 2);
                int left = Math.max(0, size - k[1]);
                CHECK.due("there at " + k[0], x.go(1), left > 0 ? 1 : 0);
                CHECK.due("size", x.of(0, 1), left);
                CHECK.due("cell", x.of(0, 0), 50);
                CHECK.due("way", x.of(0, 2), 2);
                CHECK.due("steam", x.now(4), size - left);
                CHECK.due("gone", x.of(0, 3), left > 0 ? 0 : 1);
                CHECK.due("tick of it", x.of(0, 4), left > 0 ? -4 : 0);
            }
        }
        for (int[] k : new int[][] {{1, 59, 60}, {1, 58, 59}, {50, 49, 1}, {50, 50, 2}, {50, 51, 2}}) {
            DropsDance x = Check.told("hiss " + k[0] + ";");
            x.heat(k[1]);
            x.drop(50, 60, 2);
            x.go(1);
            CHECK.due("hiss " + k[0] + " at " + k[1], x.of(0, 1), 60 - k[2]);
        }
        // A cold CELL is touched where THE PLATE floats, a TOOTH or a plain one beside it is not.
        DropsDance x = hot("row cpppeppppppp;");
        x.drop(0, 60, 1);
        x.drop(1, 60, 2);
        x.drop(4, 60, 2);
        x.go(1);
        isAt("cold", x, 0, 0, 50, 1);
        isAt("plain", x, 1, 13, 58, 2);
        isAt("a tooth", x, 2, 5, 58, 1);
        // Touching, nothing is drawn and none leaps.
        DropsDance y = Check.told("roll 60;leap 9;");
        y.drop(50, 9, 1);
        y.go(3);
        isAt("touching", y, 0, 50, 6, 1);
        CHECK.due("nothing drawn", y.seed(0), 0);
    }

    /** At TICKS that are a multiple of film (0, too) it loses. */
    private static void goFilm() {
        for (int film = 1; film <= 9; film++) {
            DropsDance x = hot("film " + film + ";chimney 99;");
            x.drop(50, 60, 1);
            for (int tick = 0; tick <= 20; tick++) {
                x.go(1);
                CHECK.due("film " + film + " behind TICK " + tick, x.of(0, 1), 60 - 1 - tick / film);
            }
        }
    }

    /** 1, or 2 from chimney on (all it has at most). */
    private static void goChimney() {
        for (int chimney : new int[] {1, 2, 3, 30, 59, 60, 61, 99}) {
            for (int size = Math.max(1, chimney - 1); size <= Math.min(60, chimney + 1); size++) {
                DropsDance x = hot("chimney " + chimney + ";");
                x.drop(50, size, 1);
                x.go(1);
                int left = Math.max(0, size - (size >= chimney ? 2 : 1));
                CHECK.due("chimney " + chimney + " of " + size, x.of(0, 1), left);
                CHECK.due("steam", x.now(4), size - left);
                CHECK.due("gone", x.of(0, 3), left == 0 ? 1 : 0);
                CHECK.due("all water", x.now(3) + x.now(4), size);
            }
        }
        // Joined ones may be above 60: 98, 99, 100.
        for (int size = 38; size <= 40; size++) {
            DropsDance x = lossless("chimney 99;row ppppppppppxp;");
            x.drop(0, 60, 1);
            x.drop(1, size, 1);
            x.go(1);
            CHECK.due("joined", x.of(1, 1), 60 + size);
            x.go(8);
            x.go(1);
            CHECK.due("from 99 on", x.of(1, 1), 60 + size - (60 + size >= 99 ? 2 : 1));
        }
    }

    /** At SIZE 0 it is GONE in steam; else if its SIZE is leap or less it LEAPS: it is GONE with what it has. */
    private static void goLeap() {
        for (int leap = 0; leap <= 9; leap++) {
            for (int size = 1; size <= leap + 3; size++) {
                DropsDance x = hot("film 9;leap " + leap + ";");
                x.drop(50, size, 1);
                int left = size - 1, how = left == 0 ? 1 : left <= leap ? 3 : 0;
                CHECK.due("leap " + leap + ", size " + size, x.go(1), how == 0 ? 1 : 0);
                CHECK.due("gone", x.of(0, 3), how);
                CHECK.due("size", x.of(0, 1), left);
                CHECK.due("cell", x.of(0, 0), how == 0 ? 51 : 50);
                CHECK.due("leapt", x.now(6), how == 3 ? left : 0);
                CHECK.due("steam", x.now(4), 1);
                // At a TICK where nothing is lost it looks at its SIZE, too.
                DropsDance y = lossless("leap " + leap + ";");
                y.drop(50, size, 1);
                CHECK.due("no loss, leap " + leap + ", size " + size, y.go(1), size <= leap ? 0 : 1);
                CHECK.due("leapt", y.now(6), size <= leap ? size : 0);
                CHECK.due("tick", y.of(0, 4), size <= leap ? 1 : -4);
            }
        }
        DropsDance x = hot("leap 9;chimney 1;");
        x.drop(50, 1, 1);
        x.drop(60, 2, 1);
        x.drop(70, 3, 1);
        x.go(1);
        isGone("all it has", x, 0, 0, 1, 0);
        isGone("both", x, 1, 0, 1, 0);
        isGone("one is left", x, 2, 1, 3, 0);
    }

    /** That of its CELL's TOOTH, if its SIZE is from teeth from to to; else its own. */
    private static void goTeeth() {
        int[] step = {-12, 1, 12, -1};
        for (int[] teeth : new int[][] {{1, 60}, {1, 1}, {60, 60}, {10, 10}, {10, 20}, {2, 59}}) {
            for (int size : new int[] {1, 2, 9, 10, 11, 19, 20, 21, 58, 59, 60}) {
                for (int kind = 0; kind < 4; kind++) {
                    DropsDance x = lossless("teeth " + teeth[0] + " " + teeth[1] + ";");
                    int own = (kind + 1) & 3;
                    x.put(50, kind);
                    x.drop(50, size, own);
                    x.go(1);
                    int way = size >= teeth[0] && size <= teeth[1] ? kind : own;
                    isAt("teeth " + teeth[0] + " " + teeth[1], x, 0, 50 + step[way], size, way);
                }
            }
        }
        // What is left counts, not what it had.
        for (int size = 10; size <= 13; size++) {
            DropsDance x = hot("teeth 10 11;");
            x.put(50, 0);
            x.drop(50, size, 1);
            x.go(1);
            boolean sent = size == 11 || size == 12;
            isAt("behind its loss", x, 0, sent ? 38 : 51, size - 1, sent ? 0 : 1);
        }
    }

    /** If its SIZE is roll or less and its CELL has no TOOTH, a DRAWN one. */
    private static void goRoll() {
        // 12345 times 3 draws WAY 3 first: its own is 1.
        int seed = 37035, drawn = seed * 1103515245 + 12345, way = drawn >>> 16 & 3;
        int[] step = {-12, 1, 12, -1};
        CHECK.holds("another WAY than its own", way != 1);
        for (int roll : new int[] {0, 1, 2, 30, 59, 60}) {
            for (int size = Math.max(1, roll - 1); size <= Math.min(60, roll + 1); size++) {
                for (int kind : new int[] {1, 4}) {
                    DropsDance x = lossless("roll " + roll + ";teeth 60 60;");
                    boolean draws = size <= roll && kind == 4;
                    x.put(50, kind);
                    x.seed(seed);
                    x.drop(50, size, 1);
                    x.go(1);
                    isAt("roll " + roll, x, 0, draws ? 50 + step[way] : 51, size, draws ? way : 1);
                    CHECK.due("the seed then", x.seed(0), draws ? drawn : seed);
                }
            }
        }
        // Joined ones roll by what both have; who is GONE draws nothing.
        DropsDance x = lossless("roll 20;");
        x.seed(seed);
        x.drop(0, 30, 1);
        x.drop(1, 20, 1);
        x.go(1);
        isAt("50 does not roll", x, 1, 2, 50, 1);
        CHECK.due("nothing drawn", x.seed(0), seed);
        DropsDance y = hot("roll 60;leap 1;");
        y.drop(50, 1, 1);
        y.drop(60, 2, 1);
        y.go(1);
        CHECK.due("none is there", y.count(1), 0);
        CHECK.due("nothing drawn", y.seed(0), 0);
    }

    /** What is beyond THE PLATE is wall: no way leads round to the other side. */
    private static void goBeyondThePlate() {
        for (int c = 0; c < 96; c++) {
            int row = c / 12, column = c % 12;
            boolean[] wall = {row == 0, column == 11, row == 7, column == 0};
            int[] next = {c - 12, c + 1, c + 12, c - 1};
            for (int way = 0; way < 4; way++) {
                DropsDance x = lossless("");
                x.drop(c, 9, way);
                x.go(1);
                isAt("from " + c + " by " + way, x, 0, wall[way] ? c : next[way], 9, wall[way] ? (way + 1) % 4 : way);
                CHECK.due("at", x.at(wall[way] ? c : next[way]), 0);
            }
        }
    }

    /** Wall: it stays, its WAY is the next one (0, 1, 2, 3, 0) from that WAY. Into a hole it falls. */
    private static void goWallAndHole() {
        int[] step = {-12, 1, 12, -1};
        for (int way = 0; way < 4; way++) {
            DropsDance wall = lossless(""), hole = lossless(""), tooth = lossless("");
            wall.put(50 + step[way], 5);
            wall.drop(50, 9, way);
            wall.go(1);
            isAt("wall", wall, 0, 50, 9, (way + 1) % 4);
            hole.put(50 + step[way], 6);
            hole.drop(50, 9, way);
            CHECK.due("go", hole.go(1), 0);
            isGone("hole", hole, 0, 9, 2, 1);
            CHECK.due("the hole is its last CELL", hole.of(0, 0), 50 + step[way]);
            CHECK.due("its WAY", hole.of(0, 2), way);
            CHECK.due("fallen", hole.now(5), 9);
            CHECK.due("at the hole", hole.at(50 + step[way]), -4);
            // From the TOOTH's WAY, not from its own.
            tooth.put(50, way);
            tooth.put(50 + step[way], 5);
            tooth.drop(50, 9, (way + 2) % 4);
            tooth.go(1);
            isAt("a tooth into a wall", tooth, 0, 50, 9, (way + 1) % 4);
        }
        DropsDance shut = lossless("");
        for (int way = 0; way < 4; way++) {
            shut.put(50 + step[way], 5);
        }
        shut.drop(50, 9, 3);
        for (int i = 0; i < 5; i++) {
            shut.go(1);
            isAt("shut in", shut, 0, 50, 9, i % 4);
        }
    }

    /** To a CELL where another one is it joins that: SIZES are summed, the one that came is GONE. */
    private static void goJoin() {
        DropsDance x = lossless("");
        for (int i = 0; i < 12; i++) {
            x.drop(i, 60, 1);
        }
        CHECK.due("twelve in a row", x.go(1), 1);
        for (int d = 0; d < 11; d++) {
            isGone("joined", x, d, 60 * (d + 1), 4, 1);
            CHECK.due("to the next", x.of(d, 5), d + 1);
            CHECK.due("there", x.of(d, 0), d + 1);
        }
        isAt("the last one by the wall", x, 11, 11, 720, 2);
        CHECK.due("to none", x.of(11, 5), -4);
        CHECK.due("sizes", x.now(3), 720);
        CHECK.due("set down", x.now(7), 720);
        CHECK.due("steam", x.now(4), 0);
        CHECK.due("at 11", x.at(11), 11);
        CHECK.due("at 10", x.at(10), -4);
        // One that leaves first is met no more, one that comes behind is.
        DropsDance y = lossless("");
        y.drop(1, 9, 2);
        y.drop(0, 8, 1);
        y.drop(2, 7, 3);
        CHECK.due("two are left", y.go(1), 2);
        isAt("it left first", y, 0, 13, 9, 2);
        isAt("it came to an empty one", y, 1, 1, 15, 1);
        isGone("it came behind", y, 2, 7, 4, 1);
        CHECK.due("to 1", y.of(2, 5), 1);
        // To one on a cold CELL, that touches.
        DropsDance z = lossless("row pcpppppppppp;");
        z.drop(1, 50, 2);
        z.drop(0, 20, 1);
        z.go(1);
        isAt("cold, then summed", z, 0, 1, 60, 2);
        CHECK.due("steam of the cold one alone", z.now(4), 10);
        // One that hissed away is met no more.
        DropsDance w = lossless("row pcpppppppppp;");
        w.drop(1, 10, 2);
        w.drop(0, 20, 1);
        w.go(1);
        isGone("hissed away", w, 0, 0, 1, 1);
        isAt("none was there", w, 1, 1, 20, 1);
    }

    /** DROP by DROP: the joined one takes its turn with the sum when it is behind, not again when it is ahead. */
    private static void goDropByDrop() {
        DropsDance behind = hot("chimney 50;film 3;");
        behind.drop(0, 31, 1);
        behind.drop(1, 30, 1);
        behind.go(1);
        isAt("the sum has a chimney", behind, 1, 2, 58, 1);
        DropsDance ahead = hot("chimney 50;film 3;row pxpppppppppp;");
        ahead.drop(0, 30, 1);
        ahead.drop(12, 31, 0);
        ahead.go(1);
        isAt("each lost one", ahead, 0, 0, 59, 2);
        CHECK.due("steam", ahead.now(4), 2);
        DropsDance leap = lossless("leap 5;");
        leap.drop(0, 6, 1);
        leap.drop(1, 5, 1);
        leap.go(1);
        isAt("joined, it leaps not", leap, 1, 2, 11, 1);
        DropsDance gone = lossless("leap 5;");
        gone.drop(1, 5, 1);
        gone.drop(0, 6, 1);
        gone.go(1);
        isGone("leapt first", gone, 0, 5, 3, 1);
        isAt("it goes there alone", gone, 1, 1, 6, 1);
    }

    /** Promise 12 and a DRAWN WAY: any int, with wrap-around; bits 16, 17. */
    private static void seed() {
        DropsDance s = new DropsDance();
        int[] seeds = {0, 1, -1, LOW, HIGH, 65536, 65535, 12345};
        int was = 0;
        for (int v : seeds) {
            CHECK.due("seed(" + v + ")", s.seed(v), was);
            was = v;
        }
        int[] step = {-12, 1, 12, -1};
        for (int v : seeds) {
            DropsDance x = lossless("roll 60;");
            x.seed(v);
            x.drop(50, 9, 0);
            x.drop(60, 9, 0);
            x.go(1);
            int at = 50;
            int drawn = v;
            for (int d = 0; d < 2; d++) {
                drawn = (int) (drawn * 1103515245L + 12345L);
                int way = (drawn & 0x30000) / 0x10000;
                isAt("drawn from " + v, x, d, at + step[way], 9, way);
                at = 60;
            }
            CHECK.due("the seed behind two", x.seed(0), drawn);
        }
        busy().due("seed(7), as it is", x -> x.seed(7), 7);
    }

    /** Promise 13: BAD. */
    private static void ofBounds() {
        Stays s = busy();
        for (int d : new int[] {LOW, -1, 7, 8, 11, 12, HIGH}) {
            for (int what : new int[] {0, 5}) {
                s.due("of(" + d + ", " + what + ")", x -> x.of(d, what), -1);
            }
        }
        for (int what : new int[] {LOW, -1, 6, 7, HIGH}) {
            s.due("of(0, " + what + ")", x -> x.of(0, what), -1);
            s.due("of(6, " + what + ")", x -> x.of(6, what), -1);
        }
        DropsDance x = new DropsDance();
        for (int many = 0; many < 12; many++) {
            CHECK.due("of(" + many + ", 0), not there yet", x.of(many, 0), -1);
            x.drop(30 + many, 1 + many, many % 4);
            CHECK.due("of(" + many + ", 0)", x.of(many, 0), 30 + many);
            CHECK.due("of(" + many + ", 1)", x.of(many, 1), 1 + many);
        }
        CHECK.due("of(12, 0)", x.of(12, 0), -1);
    }

    /** Promise 13: the last CELL; what it had when it was GONE by 2, 3, 4; steam: 0; NONE. */
    private static void ofWhatItHad() {
        Stays s = busy();
        int[][] due = {{5, 19, 1, 2, 0, -4}, {31, 20, 1, 4, 0, 2}, {-5, -5, -5, 0, -4, -4}, {40, 2, 1, 3, 0, -4}, {11, 0, 0, 1, 0, -4},
            {78, 33, 0, 0, -4, -4}, {-5, 8, -5, 0, -4, -4}};
        for (int d = 0; d < due.length; d++) {
            for (int what = 0; what < 6; what++) {
                if (due[d][what] != -5) {
                    int drop = d, asked = what;
                    s.due("of(" + d + ", " + what + ")", x -> x.of(drop, asked), due[d][what]);
                }
            }
        }
        // It stays so whatever goes on.
        DropsDance x = new DropsDance();
        Stays.busy(x);
        x.heat(0);
        x.go(200);
        for (int d : new int[] {0, 1, 3, 4}) {
            for (int what = 0; what < 6; what++) {
                CHECK.due("later of(" + d + ", " + what + ")", x.of(d, what), due[d][what]);
            }
        }
    }

    /** Promise 14: the DROP that is there still; NONE. BAD. */
    private static void at() {
        Stays s = busy();
        for (int c : new int[] {LOW, -1, 96, 97, HIGH}) {
            s.due("at(" + c + ")", x -> x.at(c), -1);
        }
        for (int c : new int[] {0, 5, 10, 11, 31, 40, 95}) {
            s.due("at(" + c + ")", x -> x.at(c), -4);
        }
        s.due("at(78)", x -> x.at(78), 5);
        DropsDance x = new DropsDance();
        x.drop(0, 9, 1);
        x.drop(95, 9, 1);
        int[][] due = {{0, 0}, {1, -4}, {94, -4}, {95, 1}};
        for (int[] k : due) {
            CHECK.due("at(" + k[0] + ")", x.at(k[0]), k[1]);
        }
        x.go(8);
        CHECK.due("at(0) with 1 left", x.at(0), 0);
        x.go(1);
        CHECK.due("at(0) with none", x.at(0), -4);
        x.drop(0, 5, 1);
        CHECK.due("at(0), another one", x.at(0), 2);
    }

    /** Promise 15: BAD; all water is told. */
    private static void now() {
        Stays s = busy();
        int[] due = {2, 70, 1, -5, -5, 19, 2, 20 + 21 + 22 + 3 + 6 + 33 + 8};
        for (int what : new int[] {LOW, -1, 0, 1, 2, 5, 6, 7, 8, 9, HIGH}) {
            s.due("now(" + what + ")", x -> x.now(what), what < 0 || what > 7 ? -1 : due[what]);
        }
        DropsDance x = new DropsDance();
        Stays.busy(x);
        for (int i = 0; i < 30; i++) {
            CHECK.due("all water", x.now(3) + x.now(4) + x.now(5) + x.now(6), 113);
            x.go(3);
        }
        CHECK.due("TICK", x.now(0), 92);
    }

    /** Promise 16: BAD; NONE: it is GONE. */
    private static void pointsBounds() {
        Stays s = busy();
        int[][] due = {{LOW, -1}, {-1, -1}, {0, -4}, {1, -4}, {3, -4}, {4, -4}, {5, 9}, {6, 3}, {7, -1}, {8, -1}, {12, -1}, {HIGH, -1}};
        for (int[] k : due) {
            s.due("points(" + k[0] + ")", x -> x.points(k[0]), k[1]);
        }
    }

    /** 0, if it TOUCHES or has a chimney; else 3 and twice (SIZE by 10, divided down). */
    private static void pointsBySize() {
        for (int chimney : new int[] {1, 10, 40, 60, 61, 99}) {
            for (int size = 1; size <= 60; size++) {
                DropsDance x = hot("chimney " + chimney + ";row cppppppppppp;");
                x.drop(1, size, 1);
                x.drop(0, size, 1);
                CHECK.due("points of " + size + " by " + chimney, x.points(0), size >= chimney ? 0 : 3 + 2 * (size / 10));
                CHECK.due("on a cold one", x.points(1), 0);
                x.heat(40);
                CHECK.due("at down", x.points(0), size >= chimney ? 0 : 3 + 2 * (size / 10));
                x.heat(39);
                CHECK.due("below down", x.points(0), 0);
                x.heat(59);
                CHECK.due("below up", x.points(0), 0);
            }
        }
        // Of joined ones: 98, 99.
        for (int size = 38; size <= 39; size++) {
            DropsDance x = lossless("chimney 99;");
            x.drop(0, 60, 1);
            x.drop(1, size, 1);
            x.go(1);
            CHECK.due("points of both", x.points(1), size == 38 ? 21 : 0);
            CHECK.due("points of the one that came", x.points(0), -4);
        }
    }

    /** Promises 17, 18: IMAGE i (0, 1). BAD; STATE: there is none. */
    private static void keepAndBack() {
        Stays s = busy();
        for (int i : new int[] {LOW, -1, 2, 3, HIGH}) {
            s.due("keep(" + i + ")", x -> x.keep(i), -1);
            s.due("back(" + i + ")", x -> x.back(i), -1);
        }
        for (int kept = 0; kept < 2; kept++) {
            int i = kept, other = 1 - kept;
            Stays one = new Stays(CHECK, "image " + i + " alone", x -> {
                Stays.busy(x);
                x.end(0);
                x.text();
                x.drop(50, 20, 1);
                x.keep(i);
                x.go(2);
            });
            one.due("back(" + other + ")", x -> x.back(other), -2);
            one.due("count(3)", x -> x.count(3), 1);
            one.changes("keep(" + other + ")", x -> x.keep(other), 0);
            one.changes("keep(" + i + ")", x -> x.keep(i), 1);
            one.changes("back(" + i + ")", x -> x.back(i), 0);
            DropsDance x = new DropsDance();
            CHECK.due("keep", x.keep(i), 0);
            CHECK.due("the other one", x.back(other), -2);
            CHECK.due("back", x.back(i), 0);
            CHECK.due("keep again", x.keep(i), 1);
        }
        // Back, and back again: the same; what was kept does not go on.
        Stays back = new Stays(CHECK, "back", x -> {
            Stays.busy(x);
            x.back(1);
        });
        back.due("back(1)", x -> x.back(1), 1);
        back.due("back(1) behind others", x -> {
            x.go(9);
            x.drop(95, 5, 1);
            x.put(50, 6);
            return x.back(1);
        }, 1);
        back.due("keep(1)", x -> x.keep(1), 1);
        back.due("back(1) over other DROPS, GONE otherwise", x -> {
            x.back(0);
            for (int i = 0; i < 12; i++) {
                x.drop(60 + i, 1 + 5 * i, i % 4);
            }
            x.go(3);
            x.heat(0);
            x.put(95, 6);
            x.go(200);
            return x.back(1);
        }, 1);
        // A DROP that has the number of one that joined has joined to none.
        DropsDance again = new DropsDance();
        Stays.busy(again);
        CHECK.due("1 joined 2", again.of(1, 5), 2);
        again.back(0);
        again.drop(60, 9, 1);
        again.drop(70, 9, 1);
        int[] fresh = {70, 9, 1, 0, -4, -4};
        for (int what = 0; what < 6; what++) {
            CHECK.due("of(1, " + what + ") of a new one", again.of(1, what), fresh[what]);
        }
        // Not RULES, SHEETS, told LIVES, THE TAPE, FAULTS.
        DropsDance x = new DropsDance();
        Stays.busy(x);
        x.forget();
        x.sheet(0, 0, 3);
        x.read(3, 0, 0, 1);
        x.end(5);
        x.back(0);
        int[] counts = {0, 0, 0, 2, 3, 5, 3};
        for (int what = 0; what < 7; what++) {
            CHECK.due("count(" + what + ") behind back", x.count(what), counts[what]);
        }
        CHECK.due("torn()", x.torn(), 1);
        CHECK.due("fault()", x.fault(), 3);
        CHECK.due("rule(4)", x.rule(4), 2);
        CHECK.due("floats as it did", x.now(2), 1);
        CHECK.due("seed as it was", x.seed(0), 5);
        DropsDance y = new DropsDance();
        y.heat(60);
        y.heat(40);
        y.keep(0);
        y.heat(0);
        CHECK.due("heat(40) from below", y.heat(40), 0);
        y.back(0);
        CHECK.due("it came from above", y.now(2), 1);
        CHECK.due("heat(40) still", y.heat(40), 1);
    }
}

/** Promises 9 to 18: heat, drop, go, seed, of, at, now, points, keep, back. */
public final class PlateTest {
    private static final Check CHECK = new Check();
    private static final String KINDS = "leap 9;film 9;row ppoppppppppp;row pppppppppppo;";

    public static void main(String[] args) {
        heat();
        drop();
        touching();
        floating();
        moving();
        teeth();
        falling();
        joining();
        rolling();
        goBounds();
        ofAtNow();
        points();
        images();
        CHECK.end("PlateTest");
    }

    private static DropsDance hot(String text, int heat) {
        DropsDance x = Check.told(text);
        x.heat(heat);
        return x;
    }

    private static void isAt(String where, DropsDance x, int d, int cell, int size, int way) {
        CHECK.due(where + ": cell of " + d, x.of(d, 0), cell);
        CHECK.due(where + ": size of " + d, x.of(d, 1), size);
        CHECK.due(where + ": way of " + d, x.of(d, 2), way);
    }

    private static void isGone(String where, DropsDance x, int d, int how, int tick, int joined) {
        CHECK.due(where + ": how " + d + " is gone", x.of(d, 3), how);
        CHECK.due(where + ": tick in which " + d + " is gone", x.of(d, 4), tick);
        CHECK.due(where + ": whom " + d + " joined", x.of(d, 5), joined);
    }

    private static void heat() {
        DropsDance x = new DropsDance();
        int[][] steps = {{59, 0}, {40, 0}, {60, 1}, {99, 1}, {40, 1}, {59, 1}, {39, 0}, {40, 0}, {59, 0}, {0, 0}, {99, 1}, {0, 0}};
        for (int[] step : steps) {
            CHECK.due("heat(" + step[0] + ")", x.heat(step[0]), step[1]);
            CHECK.due("now(1)", x.now(1), step[0]);
            CHECK.due("now(2)", x.now(2), step[1]);
        }
        x.heat(70);
        CHECK.due("heat(100)", x.heat(100), -1);
        CHECK.due("heat(-1)", x.heat(-1), -1);
        CHECK.due("now(1) stays", x.now(1), 70);
        CHECK.due("now(2) stays", x.now(2), 1);
        DropsDance y = Check.told("up 1;down 0;");
        CHECK.due("heat(0)", y.heat(0), 0);
        CHECK.due("heat(1)", y.heat(1), 1);
        CHECK.due("heat(0) from above", y.heat(0), 1);
    }

    private static void drop() {
        DropsDance x = Check.told("row xopppppppppp;");
        int[][] bad = {{-1, 1, 0}, {96, 1, 0}, {5, 0, 0}, {5, 61, 0}, {5, 1, -1}, {5, 1, 4}, {0, 0, 0}, {Integer.MAX_VALUE, 1, 0}};
        for (int[] b : bad) {
            CHECK.due("drop bad", x.drop(b[0], b[1], b[2]), -1);
        }
        CHECK.due("drop on a wall", x.drop(0, 1, 0), -2);
        CHECK.due("drop on a hole", x.drop(1, 1, 0), -2);
        for (int i = 0; i < 12; i++) {
            CHECK.due("drop " + i, x.drop(10 + i, 1 + i, i % 4), i);
            CHECK.due("at " + i, x.at(10 + i), i);
            isAt("set down", x, i, 10 + i, 1 + i, i % 4);
            isGone("set down", x, i, 0, -4, -4);
        }
        CHECK.due("a 13th where one is", x.drop(10, 1, 0), -2);
        CHECK.due("a 13th on a wall", x.drop(0, 1, 0), -2);
        CHECK.due("a 13th, bad", x.drop(50, 61, 0), -1);
        CHECK.due("a 13th", x.drop(50, 60, 0), -3);
        CHECK.due("all that was set down", x.now(7), 78);
        x.go(200);
        CHECK.due("those that are gone count", x.drop(50, 60, 0), -3);
        CHECK.due("all gone", x.count(1), 0);
    }

    private static void touching() {
        DropsDance x = Check.told("hiss 10;");
        x.heat(39);
        x.drop(20, 10, 1);
        CHECK.due("go", x.go(1), 1);
        isAt("touching", x, 0, 20, 6, 1);
        CHECK.due("steam", x.now(4), 4);
        x.go(1);
        isAt("touching", x, 0, 20, 2, 1);
        CHECK.due("go", x.go(1), 0);
        isAt("in steam", x, 0, 20, 0, 1);
        isGone("in steam", x, 0, 1, 2, -4);
        CHECK.due("all it has at most", x.now(4), 10);
        CHECK.due("at", x.at(20), -4);
        DropsDance y = Check.told("leap 9;");
        y.heat(0);
        y.drop(20, 3, 1);
        y.go(2);
        isAt("who touches does not leap, loses 1 at heat 0", y, 0, 20, 1, 1);
        DropsDance z = hot("row pcpppppppppp;", 60);
        z.drop(0, 60, 1);
        z.drop(1, 60, 1);
        z.go(1);
        isAt("joined on a cold one, that touches then", z, 1, 1, 111, 1);
        DropsDance w = hot("row pcpppppppppp;film 9;", 60);
        w.drop(0, 60, 1);
        w.go(2);
        isAt("cold ones are touched", w, 0, 1, 51, 1);
    }

    private static void floating() {
        DropsDance x = hot("film 3;chimney 40;leap 0;", 60);
        x.drop(0, 41, 1);
        int[] sizes = {39, 39, 39, 38, 38, 38, 37};
        for (int t = 0; t < 7; t++) {
            x.go(1);
            isAt("floating at tick " + t, x, 0, t + 1, sizes[t], 1);
        }
        DropsDance edge = hot("chimney 40;", 60);
        edge.drop(0, 40, 1);
        edge.drop(24, 39, 1);
        edge.go(1);
        CHECK.due("chimney from 40 on", edge.of(0, 1), 38);
        CHECK.due("none at 39", edge.of(1, 1), 38);
        DropsDance one = hot("chimney 1;film 1;", 60);
        one.drop(0, 1, 1);
        one.drop(24, 2, 1);
        one.drop(48, 3, 1);
        CHECK.due("all it has at most", one.go(1), 1);
        CHECK.due("steam", one.now(4), 5);
        isAt("in steam it does not move", one, 0, 0, 0, 1);
        isGone("in steam", one, 0, 1, 0, -4);
        isGone("in steam", one, 1, 1, 0, -4);
        isAt("it goes", one, 2, 49, 1, 1);
        DropsDance leap = hot("leap 4;film 5;", 60);
        leap.drop(0, 6, 1);
        leap.go(1);
        leap.drop(24, 4, 1);
        leap.drop(48, 5, 1);
        leap.go(1);
        isAt("leapt at a tick without loss", leap, 1, 24, 4, 1);
        isGone("leapt", leap, 1, 3, 1, -4);
        isAt("5 goes", leap, 2, 49, 5, 1);
        CHECK.due("leapt", leap.now(6), 4);
        leap.go(4);
        isAt("leapt with what it has", leap, 0, 5, 4, 1);
        isGone("leapt", leap, 0, 3, 5, -4);
        CHECK.due("leapt", leap.now(6), 12);
        CHECK.due("steam", leap.now(4), 3);
        CHECK.due("set down", leap.now(7), 15);
    }

    private static void moving() {
        int[][] corners = {{0, 0, 0, 1}, {0, 3, 0, 0}, {0, 1, 1, 1}, {0, 2, 12, 2}, {11, 1, 11, 2}, {11, 0, 11, 1}, {11, 2, 23, 2},
            {84, 2, 84, 3}, {84, 3, 84, 0}, {84, 0, 72, 0}, {95, 1, 95, 2}, {95, 2, 95, 3}, {95, 3, 94, 3}, {50, 0, 38, 0},
            {50, 1, 51, 1}, {50, 2, 62, 2}, {50, 3, 49, 3}, {23, 1, 23, 2}, {12, 3, 12, 0}};
        for (int[] k : corners) {
            DropsDance x = hot("", 60);
            x.drop(k[0], 20, k[1]);
            x.go(1);
            isAt("from " + k[0] + " way " + k[1], x, 0, k[2], 19, k[3]);
        }
        DropsDance x = hot("row pxpppppppppp;", 60);
        x.drop(0, 20, 1);
        x.go(1);
        isAt("a wall", x, 0, 0, 19, 2);
        x.go(1);
        isAt("then the next way", x, 0, 12, 19, 2);
    }

    private static void teeth() {
        int[] sizes = {9, 10, 20, 21};
        for (int begun : sizes) {
            // At TICK 0 it loses 1: teeth look at what is left.
            DropsDance x = hot("teeth 9 19;row pppppppppppp;row nnpppppppppp;", 60);
            x.drop(13, begun, 2);
            x.go(1);
            int size = begun - 1;
            boolean sent = size >= 9 && size <= 19;
            isAt("teeth, size " + begun, x, 0, sent ? 1 : 25, size, sent ? 0 : 2);
        }
        DropsDance wall = hot("row npepwppppppp;", 60);
        wall.drop(0, 20, 1);
        wall.drop(2, 20, 0);
        wall.drop(4, 20, 0);
        wall.go(1);
        isAt("a tooth into a wall", wall, 0, 0, 19, 1);
        isAt("a tooth sends east, another one comes", wall, 1, 3, 38, 1);
        CHECK.due("one comes to whom it meets", wall.of(2, 3), 4);
        wall.go(1);
        isAt("it sends again", wall, 0, 0, 19, 1);
        DropsDance sum = hot("teeth 1 60;row sppppppppppp;", 60);
        sum.drop(0, 60, 1);
        sum.drop(1, 60, 3);
        sum.go(1);
        isAt("a tooth sent it away first", sum, 0, 12, 58, 2);
        isAt("so none is there", sum, 1, 0, 58, 3);
    }

    private static void falling() {
        DropsDance x = hot("row ppoppppppppp;", 60);
        x.drop(0, 20, 1);
        x.go(1);
        CHECK.due("fallen", x.go(1), 0);
        isAt("fallen", x, 0, 2, 19, 1);
        isGone("fallen", x, 0, 2, 1, -4);
        CHECK.due("now fallen", x.now(5), 19);
        CHECK.due("now there", x.now(3), 0);
        CHECK.due("at the hole", x.at(2), -4);
        x.go(3);
        CHECK.due("nothing more", x.of(0, 1), 19);
    }

    private static void joining() {
        DropsDance x = hot("film 9;", 60);
        x.go(1);
        x.drop(0, 5, 1);
        x.drop(1, 7, 2);
        x.go(1);
        isAt("the one that came", x, 0, 1, 5, 1);
        isGone("the one that came", x, 0, 4, 1, 1);
        isAt("the other one goes on with both", x, 1, 13, 12, 2);
        CHECK.due("sizes there", x.now(3), 12);
        CHECK.due("none lost", x.now(4), 0);
        DropsDance first = hot("film 9;", 60);
        first.go(1);
        first.drop(0, 5, 3);
        first.drop(1, 7, 3);
        first.go(1);
        isAt("the first one stays by a wall", first, 0, 0, 12, 0);
        isAt("the second one came", first, 1, 0, 7, 3);
        isGone("the second one came", first, 1, 4, 1, 0);
        DropsDance swap = hot("film 9;", 60);
        swap.go(1);
        swap.drop(0, 60, 1);
        swap.drop(1, 60, 3);
        swap.drop(2, 60, 3);
        swap.go(1);
        isGone("0 joins 1", swap, 0, 4, 1, 1);
        isAt("1 goes on", swap, 1, 0, 120, 3);
        isAt("2 goes where none is left", swap, 2, 1, 60, 3);
        DropsDance big = hot("film 9;row neeeeeeeeeee;", 60);
        big.go(1);
        big.drop(2, 40, 3);
        big.drop(13, 40, 0);
        big.go(1);
        isAt("a tooth sends size 40", big, 0, 3, 40, 1);
        DropsDance above = hot("film 9;", 60);
        above.go(1);
        above.drop(0, 40, 1);
        above.drop(1, 40, 2);
        above.put(1, 1);
        above.go(1);
        isAt("80 is above all teeth", above, 1, 13, 80, 2);
    }

    private static void rolling() {
        // By hand: seed 0 draws 12345 (bits 16, 17: 0), then -1043964180 and so on.
        int seed = 0;
        DropsDance x = hot("roll 10;film 9;", 60);
        x.go(1);
        x.drop(50, 10, 1);
        x.drop(7, 11, 1);
        int cell = 50;
        int[] steps = {-12, 1, 12, -1};
        for (int t = 0; t < 6; t++) {
            seed = seed * 1103515245 + 12345;
            int way = (seed >> 16) & 3;
            cell += steps[way];
            x.go(1);
            CHECK.due("rolled to", x.of(0, 0), cell);
            CHECK.due("rolled way", x.of(0, 2), way);
        }
        CHECK.due("first draw of 0", (12345 >> 16) & 3, 0);
        CHECK.due("seed behind six draws", x.seed(-5), seed);
        CHECK.due("seed was", x.seed(0), -5);
        DropsDance tooth = hot("roll 60;teeth 1 5;film 9;row sppppppppppp;", 60);
        tooth.go(1);
        tooth.drop(0, 9, 1);
        tooth.go(1);
        isAt("a tooth that does not send: its own way", tooth, 0, 1, 9, 1);
        CHECK.due("nothing drawn on a tooth", tooth.seed(0), 0);
        DropsDance wall = hot("roll 60;film 9;row xpxppppppppp;row pxpppppppppp;", 60);
        wall.go(1);
        wall.seed(12345 * 7);
        wall.drop(1, 9, 1);
        wall.go(1);
        int drawn = ((12345 * 7 * 1103515245 + 12345) >> 16) & 3;
        isAt("drawn into a wall", wall, 0, 1, 9, (drawn + 1) & 3);
    }

    private static void goBounds() {
        DropsDance x = new DropsDance();
        int[] bad = {0, -1, 201, Integer.MAX_VALUE, Integer.MIN_VALUE};
        for (int n : bad) {
            CHECK.due("go(" + n + ")", x.go(n), -1);
        }
        CHECK.due("now(0)", x.now(0), 0);
        CHECK.due("go(200)", x.go(200), 0);
        CHECK.due("go(1)", x.go(1), 0);
        CHECK.due("now(0)", x.now(0), 201);
        DropsDance film = hot("film 2;", 60);
        film.go(1);
        film.drop(0, 20, 1);
        film.go(1);
        CHECK.due("tick 1 takes nothing", film.of(0, 1), 20);
        film.go(1);
        CHECK.due("tick 2 does", film.of(0, 1), 19);
    }

    private static void ofAtNow() {
        DropsDance x = new DropsDance();
        CHECK.due("of(0, 0) of none", x.of(0, 0), -1);
        x.drop(40, 5, 3);
        int[][] bad = {{-1, 0}, {1, 0}, {12, 0}, {0, -1}, {0, 6}, {Integer.MIN_VALUE, 0}, {0, Integer.MAX_VALUE}};
        for (int[] b : bad) {
            CHECK.due("of(" + b[0] + ", " + b[1] + ")", x.of(b[0], b[1]), -1);
        }
        CHECK.due("at(40)", x.at(40), 0);
        CHECK.due("at(41)", x.at(41), -4);
        CHECK.due("at(-1)", x.at(-1), -1);
        CHECK.due("at(96)", x.at(96), -1);
        CHECK.due("now(-1)", x.now(-1), -1);
        CHECK.due("now(8)", x.now(8), -1);
        CHECK.due("now(3)", x.now(3), 5);
        CHECK.due("now(7)", x.now(7), 5);
    }

    private static void points() {
        DropsDance x = hot("chimney 40;row cppppppppppp;film 9;", 60);
        int[][] due = {{9, 3}, {10, 5}, {19, 5}, {20, 7}, {39, 9}, {40, 0}, {60, 0}};
        for (int i = 0; i < due.length; i++) {
            x.drop(20 + i, due[i][0], 0);
            CHECK.due("points of size " + due[i][0], x.points(i), due[i][1]);
        }
        x.drop(0, 20, 0);
        CHECK.due("on a cold one", x.points(7), 0);
        CHECK.due("points(8)", x.points(8), -1);
        CHECK.due("points(-1)", x.points(-1), -1);
        x.heat(39);
        CHECK.due("touching", x.points(1), 0);
        x.go(200);
        CHECK.due("gone", x.points(1), -4);
    }

    /** One leaps, one falls, one joins, one goes on. */
    private static DropsDance allKinds() {
        DropsDance x = hot(KINDS, 60);
        setDownAllKinds(x);
        return x;
    }

    private static void setDownAllKinds(DropsDance x) {
        x.drop(30, 10, 1);
        x.go(1);
        x.drop(1, 20, 1);
        x.drop(40, 21, 1);
        x.drop(41, 22, 2);
        x.go(1);
    }

    private static void isAllKinds(String when, DropsDance x) {
        int[][] due = {{30, 9, 1, 3, 0, -4}, {2, 20, 1, 2, 1, -4}, {41, 21, 1, 4, 1, 3}, {53, 43, 2, 0, -4, -4}};
        int[] now = {2, 60, 1, 43, 1, 20, 9, 73};
        for (int d = 0; d < 4; d++) {
            for (int what = 0; what < 6; what++) {
                CHECK.due("of(" + d + ", " + what + ") " + when, x.of(d, what), due[d][what]);
            }
        }
        for (int what = 0; what < 8; what++) {
            CHECK.due("now(" + what + ") " + when, x.now(what), now[what]);
        }
    }

    private static void goneOnesInImages() {
        DropsDance y = allKinds();
        isAllKinds("first", y);
        y.keep(1);
        y.drop(72, 60, 3);
        y.drop(73, 60, 3);
        y.go(20);
        y.heat(0);
        y.go(200);
        CHECK.due("all gone", y.count(1), 0);
        CHECK.due("back(1)", y.back(1), 2);
        isAllKinds("back", y);
        // Others in the same places by an older image, then back again.
        DropsDance z = hot(KINDS, 60);
        z.keep(0);
        setDownAllKinds(z);
        z.keep(1);
        z.back(0);
        for (int d = 0; d < 4; d++) {
            z.drop(60 + d, d == 3 ? 9 : 15, 3);
        }
        z.go(9);
        z.back(1);
        isAllKinds("back over others", z);
    }

    private static void images() {
        DropsDance x = hot("film 1;roll 60;", 60);
        x.drop(50, 30, 1);
        x.go(3);
        x.put(0, 6);
        x.seed(99);
        CHECK.due("keep(0)", x.keep(0), 0);
        CHECK.due("keep(0) again", x.keep(0), 1);
        CHECK.due("keep(1)", x.keep(1), 0);
        CHECK.due("keep(2)", x.keep(2), -1);
        CHECK.due("keep(-1)", x.keep(-1), -1);
        CHECK.due("images", x.count(3), 2);
        int cell = x.of(0, 0), way = x.of(0, 2);
        x.heat(10);
        x.put(0, 7);
        x.drop(95, 3, 0);
        x.go(20);
        x.seed(3);
        x.saw(5, 5, true, 5);
        x.sheet(0, 0, 3);
        CHECK.due("back(0)", x.back(0), 3);
        isAt("back", x, 0, cell, 27, way);
        isGone("back", x, 0, 0, -4, -4);
        int[] now = {3, 60, 1, 27, 3, 0, 0, 30};
        for (int i = 0; i < 8; i++) {
            CHECK.due("now(" + i + ") of the image", x.now(i), now[i]);
        }
        CHECK.due("cell(0)", x.cell(0), 6);
        CHECK.due("drops", x.count(0), 1);
        CHECK.due("told lives are no part of it", x.count(2), 1);
        CHECK.due("sheets are no part of it", x.count(6), 3);
        CHECK.due("seed", x.seed(1), 99);
        x.go(5);
        CHECK.due("the image is its own", x.back(0), 3);
        CHECK.due("seed again", x.seed(1), 99);
        CHECK.due("back(2)", x.back(2), -1);
        CHECK.due("back(-1)", x.back(-1), -1);
        goneOnesInImages();
        DropsDance y = new DropsDance();
        y.keep(1);
        CHECK.due("back(0), there is none", y.back(0), -2);
        CHECK.due("back(1)", y.back(1), 0);
    }
}

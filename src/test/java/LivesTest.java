/** Promises 24 to 32: life, hump, hot, odds, cools, saw, forget, fits, right. */
public final class LivesTest {
    private static final Check CHECK = new Check();

    public static void main(String[] args) {
        life();
        hump();
        hot();
        odds();
        cools();
        toldLives();
        fits();
        CHECK.end("LivesTest");
    }

    private static void life() {
        DropsDance x = new DropsDance();
        CHECK.due("touching at 0", x.life(60, 0, true), 60);
        CHECK.due("touching at 9", x.life(60, 9, true), 60);
        CHECK.due("touching at 10", x.life(60, 10, true), 30);
        CHECK.due("touching at 20", x.life(60, 20, true), 20);
        CHECK.due("touching at 29", x.life(61 - 1, 29, true), 20);
        CHECK.due("touching, not even", x.life(10, 29, true), 4);
        CHECK.due("from below at 59", x.life(10, 59, true), 2);
        CHECK.due("from above at 59", x.life(10, 59, false), 28);
        CHECK.due("from above at 40", x.life(10, 40, false), 28);
        CHECK.due("from above at 39", x.life(10, 39, false), 3);
        CHECK.due("from below at 60", x.life(10, 60, true), 28);
        CHECK.due("with a chimney", x.life(60, 60, true), 3 * (11 + 38 - 1) + 1);
        CHECK.due("one", x.life(1, 60, true), 1);
        DropsDance leap = Check.told("leap 9;film 9;");
        CHECK.due("leaps at once", leap.life(10, 60, true), 1);
        CHECK.due("leaps, less than leap", leap.life(3, 60, true), 1);
        CHECK.due("leaps later", leap.life(11, 60, true), 10);
        CHECK.due("touching none leaps", leap.life(3, 0, true), 3);
        DropsDance longest = Check.told("film 9;chimney 99;");
        CHECK.due("longest", longest.life(60, 99, true), 532);
        DropsDance chimney = Check.told("film 1;chimney 1;");
        CHECK.due("two by two", chimney.life(5, 99, true), 3);
        int[][] bad = {{0, 5}, {61, 5}, {-1, 5}, {5, -1}, {5, 100}, {Integer.MAX_VALUE, Integer.MAX_VALUE}};
        for (int[] b : bad) {
            CHECK.due("life bad", x.life(b[0], b[1], true), -1);
        }
        lifeIsThatOfADrop();
    }

    private static void lifeIsThatOfADrop() {
        String[] texts = {"", "leap 3;film 2;chimney 7;hiss 3;", "up 99;down 99;hiss 1;", "up 1;down 0;leap 9;"};
        for (String text : texts) {
            DropsDance x = Check.told(text);
            for (int heat = 0; heat < 100; heat += 3) {
                for (int size = 1; size <= 60; size += 7) {
                    x.text();
                    Check.tell(x, text);
                    x.heat(heat);
                    int ticks = 0, there = x.drop(40, size, 1) + 1;
                    while (there > 0 && ticks < 1000) {
                        there = x.go(1);
                        ticks++;
                    }
                    CHECK.due(text + " life(" + size + ", " + heat + ")", x.life(size, heat, true), ticks);
                }
            }
        }
    }

    private static void isHump(DropsDance x, int size, boolean up, int[] due) {
        for (int what = 0; what < 4; what++) {
            CHECK.due("hump(" + size + ", " + up + ", " + what + ")", x.hump(size, up, what), due[what]);
        }
    }

    private static void hump() {
        DropsDance x = new DropsDance();
        isHump(x, 10, true, new int[] {60, 28, 2, 60});
        isHump(x, 10, false, new int[] {40, 28, 3, 40});
        isHump(x, 1, true, new int[] {0, 1, 1, -4});
        DropsDance leap = Check.told("leap 9;");
        isHump(leap, 9, true, new int[] {0, 9, 1, -4});
        DropsDance low = Check.told("up 1;down 0;");
        isHump(low, 5, true, new int[] {1, 13, 13, 1});
        isHump(low, 5, false, new int[] {0, 13, 13, -4});
        DropsDance late = Check.told("up 99;down 99;hiss 1;");
        isHump(late, 60, true, new int[] {99, 145, 1, 99});
        DropsDance leapAll = Check.told("leap 9;up 10;down 5;hiss 50;");
        isHump(leapAll, 10, true, new int[] {0, 10, 1, -4});
        isHump(Check.told("up 99;leap 9;hiss 50;"), 10, true, new int[] {0, 10, 1, -4});
        isHump(Check.told("up 2;down 0;hiss 1;"), 10, true, new int[] {2, 28, 5, 2});
        isHump(Check.told("up 3;down 0;hiss 2;"), 10, true, new int[] {3, 28, 5, 3});
        int[][] bad = {{0, 0}, {61, 0}, {5, -1}, {5, 4}, {5, Integer.MIN_VALUE}};
        for (int[] b : bad) {
            CHECK.due("hump bad", x.hump(b[0], true, b[1]), -1);
        }
    }

    private static void isHot(DropsDance x, int size, int life, boolean up, int[] due) {
        for (int what = 0; what < 3; what++) {
            CHECK.due("hot(" + size + ", " + life + ", " + up + ", " + what + ")", x.hot(size, life, up, what), due[what]);
        }
    }

    private static void hot() {
        DropsDance x = new DropsDance();
        isHot(x, 10, 28, true, new int[] {40, 60, 99});
        isHot(x, 10, 28, false, new int[] {60, 40, 99});
        isHot(x, 10, 10, true, new int[] {10, 0, 9});
        isHot(x, 10, 2, true, new int[] {20, 40, 59});
        isHot(x, 10, 0, true, new int[] {0, -4, -4});
        isHot(x, 10, 999, true, new int[] {0, -4, -4});
        isHot(x, 1, 1, true, new int[] {100, 0, 99});
        DropsDance apart = Check.told("leap 9;hiss 20;");
        isHot(apart, 2, 1, true, new int[] {80, 20, 99});
        isHot(apart, 1, 1, true, new int[] {100, 0, 99});
        int[][] bad = {{0, 5, 0}, {61, 5, 0}, {5, -1, 0}, {5, 1000, 0}, {5, 5, -1}, {5, 5, 3}};
        for (int[] b : bad) {
            CHECK.due("hot bad", x.hot(b[0], b[1], true, b[2]), -1);
        }
    }

    private static void isOdds(DropsDance x, int c, int goal, int n, long[] due) {
        for (int what = 0; what < 2; what++) {
            CHECK.due("odds(" + c + ", " + goal + ", " + n + ", " + what + ")", x.odds(c, goal, n, what), due[what]);
        }
    }

    private static void odds() {
        DropsDance x = new DropsDance();
        isOdds(x, 5, 5, 0, new long[] {1, 1});
        isOdds(x, 5, 5, 10, new long[] {1, 1});
        isOdds(x, 5, 6, 0, new long[] {0, 1});
        isOdds(x, 5, 8, 2, new long[] {0, 1});
        isOdds(x, 50, 51, 1, new long[] {1, 4});
        // Twice at most: 1 by 4 at once, else 1 by 4 and on by chance; from inside none stays.
        isOdds(x, 50, 51, 2, new long[] {1, 4});
        isOdds(x, 50, 51, 3, new long[] {21, 64});
        // In the corner it stays with 1 by 2: 1 by 4, and half of the rest of that.
        isOdds(x, 0, 1, 2, new long[] {3, 8});
        isOdds(x, 0, 1, 3, new long[] {15, 32});
        isOdds(x, 0, 10, 10, new long[] {1, 1048576});
        DropsDance y = Check.told("teeth 60 60;row epppopppxppp;row wppppppppppp;");
        isOdds(y, 0, 1, 1, new long[] {1, 1});
        isOdds(y, 0, 2, 2, new long[] {1, 4});
        isOdds(y, 12, 13, 10, new long[] {0, 1});
        isOdds(y, 4, 5, 10, new long[] {0, 1});
        isOdds(y, 4, 4, 10, new long[] {1, 1});
        isOdds(y, 3, 4, 1, new long[] {1, 4});
        isOdds(y, 3, 5, 2, new long[] {0, 1});
        isOdds(y, 7, 8, 10, new long[] {0, 1});
        CHECK.due("a wall to begin with", y.odds(8, 8, 0, 0), -2);
        int[][] bad = {{-1, 0, 0, 0}, {96, 0, 0, 0}, {0, -1, 0, 0}, {0, 96, 0, 0}, {0, 0, -1, 0}, {0, 0, 11, 0}, {0, 0, 0, -1}, {8, 0, 0, 2}};
        for (int[] b : bad) {
            CHECK.due("odds bad", y.odds(b[0], b[1], b[2], b[3]), -1);
        }
    }

    private static void isCools(DropsDance x, int heat, int t, int[] due) {
        for (int what = 0; what < 2; what++) {
            CHECK.due("cools(" + heat + ", " + t + ", " + what + ")", x.cools(heat, t, what), due[what]);
        }
    }

    private static void cools() {
        DropsDance x = new DropsDance();
        isCools(x, 99, 99, new int[] {0, 0});
        isCools(x, 50, 60, new int[] {0, 0});
        isCools(x, 99, 98, new int[] {1, 1});
        isCools(x, 99, 40, new int[] {59, 59});
        isCools(x, 99, 39, new int[] {60, 60});
        isCools(x, 99, 38, new int[] {61, 60});
        isCools(x, 39, 35, new int[] {1, 0});
        isCools(x, 39, 34, new int[] {2, 0});
        isCools(x, 9, 0, new int[] {9, 0});
        isCools(x, 10, 0, new int[] {9, 0});
        isCools(x, 0, 0, new int[] {0, 0});
        DropsDance fast = Check.told("hiss 1;down 60;");
        isCools(fast, 59, 0, new int[] {1, 0});
        isCools(fast, 61, 0, new int[] {3, 2});
        DropsDance slow = Check.told("down 0;");
        isCools(slow, 99, 0, new int[] {99, 99});
        int[][] bad = {{-1, 0, 0}, {100, 0, 0}, {0, -1, 0}, {0, 100, 0}, {0, 0, -1}, {0, 0, 2}};
        for (int[] b : bad) {
            CHECK.due("cools bad", x.cools(b[0], b[1], b[2]), -1);
        }
    }

    private static void toldLives() {
        DropsDance x = new DropsDance();
        int[][] bad = {{0, 0, 0}, {61, 0, 0}, {1, -1, 0}, {1, 100, 0}, {1, 0, -1}, {1, 0, 1000}};
        for (int[] b : bad) {
            CHECK.due("saw bad", x.saw(b[0], b[1], true, b[2]), -1);
        }
        for (int i = 0; i < 12; i++) {
            CHECK.due("saw " + i, x.saw(10, 50 + i, i % 3 != 0, 28), i + 1);
        }
        CHECK.due("saw full", x.saw(10, 10, true, 999), -3);
        CHECK.due("saw bad before full", x.saw(10, 10, true, 1000), -1);
        CHECK.due("told", x.count(2), 12);
        CHECK.due("right", x.right(), 0b111001001001);
        CHECK.due("forget", x.forget(), 12);
        CHECK.due("forget", x.forget(), 0);
        CHECK.due("right of none", x.right(), 0);
        CHECK.due("saw", x.saw(60, 99, false, 999), 1);
        CHECK.due("saw", x.saw(1, 0, false, 0), 2);
        CHECK.due("saw", x.saw(1, 0, false, 1), 3);
        CHECK.due("right", x.right(), 4);
    }

    private static void isFits(DropsDance x, int many, int least, int greatest) {
        CHECK.due("fits(0)", x.fits(0), many);
        CHECK.due("fits(1)", x.fits(1), least);
        CHECK.due("fits(2)", x.fits(2), greatest);
    }

    private static void fits() {
        DropsDance x = new DropsDance();
        isFits(x, 60, 40, 99);
        x.saw(10, 70, true, 28);
        isFits(x, 31, 40, 70);
        x.saw(10, 50, true, 2);
        isFits(x, 20, 51, 70);
        // From above nothing hangs on up.
        x.saw(10, 45, false, 28);
        isFits(x, 20, 51, 70);
        x.saw(10, 45, false, 2);
        isFits(x, 0, -4, -4);
        CHECK.due("right", x.right(), 7);
        x.forget();
        // Both ways of life as long: it tells nothing.
        x.saw(1, 80, true, 1);
        isFits(x, 60, 40, 99);
        x.saw(10, 40, true, 2);
        isFits(x, 59, 41, 99);
        x.saw(10, 99, true, 28);
        isFits(x, 59, 41, 99);
        x.saw(10, 98, true, 1);
        isFits(x, 1, 99, 99);
        x.saw(10, 98, true, 28);
        isFits(x, 0, -4, -4);
        CHECK.due("fits(3)", x.fits(3), -1);
        CHECK.due("fits(-1)", x.fits(-1), -1);
        CHECK.due("rules stay", x.rule(0), 60);
        DropsDance narrow = Check.told("up 99;down 99;");
        isFits(narrow, 1, 99, 99);
        fitsFromOne();
    }

    /** up is 1 at least, also where down is 0. */
    private static void fitsFromOne() {
        isFits(Check.told("down 1;"), 99, 1, 99);
        isFits(Check.told("up 1;down 0;"), 99, 1, 99);
        DropsDance low = Check.told("down 0;");
        isFits(low, 99, 1, 99);
        low.saw(10, 0, true, 10);
        isFits(low, 99, 1, 99);
        low.saw(10, 1, true, 28);
        isFits(low, 1, 1, 1);
        low.forget();
        // Only an up of 0 would float it.
        low.saw(10, 0, true, 28);
        isFits(low, 0, -4, -4);
        low.forget();
        // From above down is what tells.
        low.saw(10, 0, false, 28);
        isFits(low, 99, 1, 99);
    }
}

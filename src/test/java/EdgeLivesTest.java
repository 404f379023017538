/** The edges of promises 24 to 32: each case with its neighbours, and what a refused call leaves. */
public final class EdgeLivesTest {
    private static final Check CHECK = new Check();
    private static final int LOW = Integer.MIN_VALUE, HIGH = Integer.MAX_VALUE;

    public static void main(String[] args) {
        lifeBounds();
        lifeTouching();
        lifeFromBelowAndAbove();
        lifeFloating();
        humpBounds();
        humpEdges();
        hotBounds();
        hotEdges();
        oddsBounds();
        oddsBegin();
        oddsEdgesOfThePlate();
        oddsLowestTerms();
        coolsBounds();
        coolsEdges();
        sawBounds();
        sawTillFull();
        forget();
        fitsBounds();
        fitsEdges();
        rightBits();
        CHECK.end("EdgeLivesTest");
    }

    private static Stays busy() {
        return new Stays(CHECK, "busy", Stays::busy);
    }

    /** Promise 24: SIZE 1 to 60, HEAT 0 to 99. BAD. */
    private static void lifeBounds() {
        Stays s = busy();
        for (boolean up : new boolean[] {true, false}) {
            for (int size : new int[] {LOW, -1, 0, 61, 62, HIGH}) {
                s.due("life of " + size, x -> x.life(size, 50, up), -1);
            }
            for (int heat : new int[] {LOW, -1, 100, 101, HIGH}) {
                s.due("life at " + heat, x -> x.life(5, heat, up), -1);
            }
        }
        DropsDance x = new DropsDance();
        CHECK.due("1 at 0", x.life(1, 0, true), 1);
        CHECK.due("2 at 1", x.life(2, 1, true), 2);
        CHECK.due("59 at 98", x.life(59, 98, true), 3 * (10 + 39 - 1) + 1);
        CHECK.due("60 at 99", x.life(60, 99, true), 3 * (11 + 38 - 1) + 1);
        s.due("life", y -> y.life(1, 0, true), 1);
        s.due("life", y -> y.life(60, 99, false), 2 * (11 + 36 - 1) + 1);
    }

    /** Touching: 1 and HEAT by hiss at each TICK, so that many TICKS, the last one not whole. */
    private static void lifeTouching() {
        for (int hiss : new int[] {1, 2, 10, 49, 50}) {
            DropsDance x = Check.told("up 99;down 99;hiss " + hiss + ";");
            for (int heat = 0; heat <= 98; heat++) {
                int loss = 1 + heat / hiss;
                for (int size : new int[] {1, 59, 60, loss - 1, loss, loss + 1, 2 * loss, 2 * loss + 1}) {
                    if (size < 1 || size > 60) {
                        continue;
                    }
                    int ticks = 0;
                    for (int left = size; left > 0; left -= loss) {
                        ticks++;
                    }
                    CHECK.due("hiss " + hiss + ": life(" + size + ", " + heat + ")", x.life(size, heat, true), ticks);
                    CHECK.due("from above, too", x.life(size, heat, false), ticks);
                }
            }
        }
    }

    /** At a HEAT that came from below it floats from up on, from above as long as it is down or more. */
    private static void lifeFromBelowAndAbove() {
        for (int[] r : new int[][] {{60, 40}, {60, 60}, {99, 99}, {99, 0}, {1, 0}, {1, 1}}) {
            DropsDance x = Check.told("up " + r[0] + ";down " + r[1] + ";film 9;");
            for (int heat = 0; heat <= 99; heat++) {
                int touching = (30 + heat / 10) / (1 + heat / 10), floating = 9 * 29 + 1;
                CHECK.due("up " + r[0] + " at " + heat, x.life(30, heat, true), heat >= r[0] ? floating : touching);
                CHECK.due("down " + r[1] + " at " + heat, x.life(30, heat, false), heat >= r[1] ? floating : touching);
            }
            // As HEAT is now does not matter.
            x.heat(99);
            CHECK.due("at 0 from below", x.life(30, 0, true), 30);
            x.put(0, 7);
            x.go(5);
            CHECK.due("on a plain plate from TICK 0 on", x.life(30, 99, true), 9 * 29 + 1);
        }
    }

    /** That TICK, too; leap, chimney and film at their edges. */
    private static void lifeFloating() {
        for (int leap = 0; leap <= 9; leap++) {
            for (int film : new int[] {1, 9}) {
                DropsDance x = Check.told("leap " + leap + ";chimney 99;film " + film + ";");
                for (int size = 1; size <= 60; size++) {
                    // It is GONE when it has leap left, or nothing: at TICK 0 at the earliest.
                    int losses = Math.max(1, size - leap);
                    CHECK.due("leap " + leap + ": life(" + size + ")", x.life(size, 99, true), film * (losses - 1) + 1);
                }
            }
        }
        int[][] chimneys = {{1, 1, 1}, {1, 2, 1}, {1, 3, 2}, {1, 60, 30}, {2, 1, 1}, {2, 2, 1}, {2, 3, 2}, {3, 2, 2}, {3, 3, 2}, {3, 4, 3}, {60, 59, 59}, {60, 60, 59}, {61, 60, 60}};
        for (int[] k : chimneys) {
            DropsDance x = Check.told("film 1;chimney " + k[0] + ";");
            CHECK.due("chimney " + k[0] + ": life(" + k[1] + ")", x.life(k[1], 99, true), k[2]);
        }
        CHECK.due("the longest", Check.told("film 9;chimney 99;").life(60, 99, true), 532);
    }

    /** Promise 25: what 0 to 3. BAD. */
    private static void humpBounds() {
        Stays s = busy();
        for (boolean up : new boolean[] {true, false}) {
            for (int size : new int[] {LOW, -1, 0, 61, HIGH}) {
                s.due("hump of " + size, x -> x.hump(size, up, 0), -1);
                s.due("hump of " + size, x -> x.hump(size, up, 3), -1);
            }
            for (int what : new int[] {LOW, -1, 4, 5, HIGH}) {
                s.due("hump what " + what, x -> x.hump(5, up, what), -1);
            }
        }
        int[] due = {60, 15, 2, 60};
        for (int what = 0; what < 4; what++) {
            int asked = what;
            s.due("hump what " + what, x -> x.hump(10, true, asked), due[what]);
        }
    }

    private static void isHump(String text, int size, boolean up, int... due) {
        DropsDance x = Check.told(text);
        for (int what = 0; what < 4; what++) {
            CHECK.due(text + " hump(" + size + ", " + up + ", " + what + ")", x.hump(size, up, what), due[what]);
        }
    }

    /** Of several the least; HEATS from 1 on (2); the first with a longer LIFE than 1 less (3; NONE). */
    private static void humpEdges() {
        // All HEATS alike: the least of them; none is longer.
        isHump("", 1, true, 0, 1, 1, -4);
        isHump("leap 9;hiss 50;", 1, false, 0, 1, 1, -4);
        // As long touching at 0 as floating: 0.
        isHump("film 1;chimney 99;hiss 1;", 10, true, 0, 10, 1, 60);
        isHump("film 1;chimney 99;hiss 1;leap 1;", 10, true, 0, 10, 1, 60);
        isHump("film 2;chimney 99;hiss 1;", 10, true, 60, 19, 1, 60);
        // HEAT 0 is left out of the shortest: it floats from 1 on, or floats at 0 alone is longest.
        isHump("up 1;down 0;film 9;", 10, true, 1, 82, 82, 1);
        isHump("up 1;down 1;film 9;", 10, false, 1, 82, 82, 1);
        isHump("up 1;down 0;film 9;", 10, false, 0, 82, 82, -4);
        isHump("up 2;down 2;film 9;hiss 1;", 10, true, 2, 82, 5, 2);
        isHump("up 99;down 99;film 9;hiss 50;", 10, true, 99, 82, 5, 99);
        isHump("up 99;down 99;film 9;hiss 50;", 10, false, 99, 82, 5, 99);
        isHump("up 98;down 98;film 9;hiss 49;", 2, false, 98, 10, 1, 98);
        // At HEAT 2 alone, at HEAT 1 alone, at HEAT 99 alone.
        isHump("up 3;down 3;film 9;hiss 2;", 10, true, 3, 82, 5, 3);
        isHump("up 2;down 2;film 9;", 10, true, 2, 82, 10, 2);
        isHump("up 99;down 99;leap 9;hiss 50;", 10, true, 0, 10, 1, -4);
        // The shortest LIFE may be floating: leap.
        isHump("leap 9;up 10;down 5;hiss 50;", 10, true, 0, 10, 1, -4);
        isHump("leap 8;up 10;down 5;hiss 50;film 9;", 11, true, 10, 19, 11, 10);
    }

    /** Promise 26: LIFE 0 to 999, what 0 to 2. BAD. */
    private static void hotBounds() {
        Stays s = busy();
        for (boolean up : new boolean[] {true, false}) {
            for (int size : new int[] {LOW, -1, 0, 61, HIGH}) {
                s.due("hot of " + size, x -> x.hot(size, 5, up, 0), -1);
            }
            for (int life : new int[] {LOW, -1, 1000, 1001, HIGH}) {
                s.due("hot life " + life, x -> x.hot(5, life, up, 0), -1);
            }
            for (int what : new int[] {LOW, -1, 3, 4, HIGH}) {
                s.due("hot what " + what, x -> x.hot(5, 5, up, what), -1);
            }
            for (int life : new int[] {0, 998, 999}) {
                s.due("none has " + life, x -> x.hot(5, life, up, 0), 0);
                s.due("the least of none", x -> x.hot(5, life, up, 1), -4);
                s.due("the greatest of none", x -> x.hot(5, life, up, 2), -4);
            }
        }
    }

    private static void isHot(String text, int size, int life, boolean up, int... due) {
        DropsDance x = Check.told(text);
        for (int what = 0; what < 3; what++) {
            CHECK.due(text + " hot(" + size + ", " + life + ", " + up + ", " + what + ")", x.hot(size, life, up, what), due[what]);
        }
    }

    private static void hotEdges() {
        isHot("", 1, 1, true, 100, 0, 99);
        isHot("", 1, 0, true, 0, -4, -4);
        isHot("", 1, 2, true, 0, -4, -4);
        String longest = "film 9;chimney 99;up 99;down 0;";
        isHot(longest, 60, 531, true, 0, -4, -4);
        isHot(longest, 60, 532, true, 1, 99, 99);
        isHot(longest, 60, 532, false, 100, 0, 99);
        isHot(longest, 60, 533, true, 0, -4, -4);
        isHot("up 99;down 98;film 9;", 10, 82, true, 1, 99, 99);
        isHot("up 99;down 98;film 9;", 10, 82, false, 2, 98, 99);
        isHot("up 1;down 1;film 9;", 10, 82, true, 99, 1, 99);
        isHot("up 1;down 1;film 9;", 10, 10, true, 1, 0, 0);
        // Apart from each other: touching from 20 on, and floating.
        isHot("leap 9;hiss 20;", 2, 1, true, 80, 20, 99);
        isHot("film 1;chimney 99;hiss 1;", 10, 10, true, 41, 0, 99);
    }

    /** Promise 27: n 0 to 10, what 0, 1. BAD; STATE: a wall to begin with. */
    private static void oddsBounds() {
        Stays s = busy();
        for (int c : new int[] {LOW, -1, 96, HIGH}) {
            s.due("odds from " + c, x -> x.odds(c, 0, 1, 0), -1);
            s.due("odds to " + c, x -> x.odds(0, c, 1, 0), -1);
            s.due("BAD before STATE", x -> x.odds(10, c, 1, 0), -1);
        }
        for (int n : new int[] {LOW, -1, 11, 12, HIGH}) {
            s.due("odds behind " + n, x -> x.odds(0, 1, n, 0), -1);
            s.due("BAD before STATE", x -> x.odds(10, 1, n, 0), -1);
        }
        for (int what : new int[] {LOW, -1, 2, 3, HIGH}) {
            s.due("odds what " + what, x -> x.odds(0, 1, 1, what), -1);
            s.due("BAD before STATE", x -> x.odds(10, 1, 1, what), -1);
        }
        s.due("from a wall", x -> x.odds(10, 0, 1, 0), -2);
        s.due("from a wall to itself", x -> x.odds(10, 10, 0, 1), -2);
        s.due("from a hole", x -> x.odds(5, 5, 10, 0), 1);
        s.due("from a TOOTH", x -> x.odds(0, 1, 1, 0), 1);
        s.due("behind 10", x -> x.odds(0, 1, 10, 1), 1);
        for (int kind = 0; kind < 8; kind++) {
            for (int c : new int[] {0, 95}) {
                DropsDance x = new DropsDance();
                x.put(c, kind);
                CHECK.due("from " + kind, x.odds(c, c, 0, 0), kind == 5 ? -2 : 1);
                CHECK.due("from " + kind, x.odds(c, c, 10, 1), kind == 5 ? -2 : 1);
            }
        }
    }

    private static void isOdds(String name, DropsDance x, int c, int goal, int n, long up, long down) {
        String call = name + ": odds(" + c + ", " + goal + ", " + n + ", ";
        CHECK.due(call + "0)", x.odds(c, goal, n, 0), up);
        CHECK.due(call + "1)", x.odds(c, goal, n, 1), down);
    }

    /** The beginning too; a wall is never been in; a hole keeps it; a TOOTH sends each SIZE. */
    private static void oddsBegin() {
        DropsDance x = Check.told("teeth 60 60;row ppopxppppppp;row eppppppppppp;row wpsppppppppp;");
        for (int n = 0; n <= 10; n++) {
            isOdds("itself", x, 50, 50, n, 1, 1);
            isOdds("a wall", x, 3, 4, n, 0, 1);
            isOdds("from a hole", x, 2, 3, n, 0, 1);
            isOdds("a tooth", x, 12, 13, n, n == 0 ? 0 : 1, 1);
            isOdds("a tooth by the wall", x, 24, 12, n, 0, 1);
            isOdds("a tooth", x, 26, 38, n, n == 0 ? 0 : 1, 1);
        }
        isOdds("into a hole", x, 1, 2, 1, 1, 4);
        isOdds("not over a hole", x, 1, 3, 2, 0, 1);
        isOdds("by a wall and a hole", x, 3, 2, 1, 1, 4);
        // At 3: the wall and what is beyond keep it with 2 by 4.
        isOdds("it stays by walls", x, 3, 2, 2, 3, 8);
        // Cold CELLS are rolled over, a DROP there does not matter.
        DropsDance cold = Check.told("row cccppppppppp;");
        cold.drop(1, 9, 1);
        isOdds("cold", cold, 0, 2, 2, 1, 16);
    }

    /** Where the next CELL is wall it stays; none comes round to the other side. */
    private static void oddsEdgesOfThePlate() {
        DropsDance x = new DropsDance();
        int[][] apart = {{11, 12}, {12, 11}, {0, 84}, {84, 0}, {95, 0}, {0, 95}, {0, 11}, {95, 84}, {23, 24}};
        for (int[] k : apart) {
            isOdds("apart", x, k[0], k[1], 1, 0, 1);
        }
        for (int c : new int[] {0, 11, 84, 95}) {
            int beside = c % 12 == 0 ? c + 1 : c - 1, over = c < 12 ? c + 12 : c - 12;
            isOdds("corner", x, c, beside, 1, 1, 4);
            isOdds("corner", x, c, over, 1, 1, 4);
            isOdds("corner", x, c, beside, 2, 3, 8);
        }
        isOdds("border", x, 5, 4, 1, 1, 4);
        isOdds("border", x, 5, 4, 2, 5, 16);
        isOdds("inside", x, 50, 51, 2, 1, 4);
        // As far as it can come, and one further.
        isOdds("ten on", x, 0, 10, 10, 1, 1048576);
        isOdds("ten on by nine", x, 0, 10, 9, 0, 1);
        isOdds("nine on by nine", x, 0, 9, 9, 1, 262144);
        isOdds("eleven on", x, 0, 11, 10, 0, 1);
        isOdds("ten courses of 1024", x, 0, 27, 5, 5, 512);
    }

    /** Lowest terms, the denominator above 0 (0 is 0 by 1): for all n, by the courses one by one. */
    private static void oddsLowestTerms() {
        DropsDance x = Check.told("row peppxppppppp;row ppspopppppcp;row pwpppppppppp;");
        for (int c : new int[] {0, 2, 13, 26, 95}) {
            for (int goal : new int[] {0, 1, 3, 14, 16, 25, 27, 94}) {
                for (int n = 0; n <= 6; n++) {
                    long been = courses(x, c, goal, n, c == goal), all = 1L << 2 * n, common = all;
                    while (been % common != 0 || all % common != 0) {
                        common--;
                    }
                    isOdds("by courses", x, c, goal, n, been / common, all / common);
                }
            }
        }
    }

    private static long courses(DropsDance x, int c, int goal, int left, boolean been) {
        if (left == 0) {
            return been ? 1 : 0;
        }
        int kind = x.cell(c);
        long sum = 0;
        for (int way = 0; way < 4; way++) {
            int w = kind < 4 ? kind : way, row = c / 12, column = c % 12;
            boolean beyond = w == 0 ? row == 0 : w == 1 ? column == 11 : w == 2 ? row == 7 : column == 0;
            int next = w == 0 ? c - 12 : w == 1 ? c + 1 : w == 2 ? c + 12 : c - 1;
            boolean stays = kind == 6 || beyond || x.cell(next) == 5;
            int to = stays ? c : next;
            sum += courses(x, to, goal, left - 1, been || to == goal);
        }
        return sum;
    }

    /** Promise 28: HEAT 0 to 99, t 0 to 99, what 0, 1. BAD. */
    private static void coolsBounds() {
        Stays s = busy();
        for (int v : new int[] {LOW, -1, 100, 101, HIGH}) {
            s.due("cools from " + v, x -> x.cools(v, 50, 0), -1);
            s.due("cools to " + v, x -> x.cools(50, v, 0), -1);
        }
        for (int what : new int[] {LOW, -1, 2, 3, HIGH}) {
            s.due("cools what " + what, x -> x.cools(50, 40, what), -1);
        }
        s.due("cools", x -> x.cools(99, 0, 0), 60 + 3 + 3 + 5 + 8);
        s.due("cools", x -> x.cools(99, 0, 1), 60);
    }

    private static void isCools(DropsDance x, int heat, int t, int ticks, int floating) {
        CHECK.due("cools(" + heat + ", " + t + ", 0)", x.cools(heat, t, 0), ticks);
        CHECK.due("cools(" + heat + ", " + t + ", 1)", x.cools(heat, t, 1), floating);
    }

    /** t or less; it floats at first, if HEAT is down or more; 0 at least. */
    private static void coolsEdges() {
        DropsDance x = new DropsDance();
        for (int heat : new int[] {0, 1, 39, 40, 41, 98, 99}) {
            isCools(x, heat, heat, 0, 0);
            isCools(x, heat, 99, 0, 0);
            if (heat > 0) {
                isCools(x, heat, heat - 1, 1, heat >= 40 ? 1 : 0);
            }
        }
        isCools(x, 0, 0, 0, 0);
        isCools(x, 1, 0, 1, 0);
        // Below up it floats as well, if it is down or more.
        isCools(x, 59, 40, 19, 19);
        isCools(x, 40, 39, 1, 1);
        isCools(x, 40, 38, 2, 1);
        isCools(x, 41, 38, 3, 2);
        // 39 loses 4: at 35 it is 36 or less, or 38 or less, as soon.
        isCools(x, 39, 38, 1, 0);
        isCools(x, 39, 35, 1, 0);
        isCools(x, 39, 34, 2, 0);
        isCools(x, 10, 9, 1, 0);
        isCools(x, 10, 8, 1, 0);
        isCools(x, 10, 7, 2, 0);
        isCools(x, 9, 8, 1, 0);
        isCools(x, 9, 7, 2, 0);
        DropsDance fast = Check.told("up 99;down 99;hiss 1;");
        isCools(fast, 98, 0, 1, 0);
        isCools(fast, 99, 0, 2, 1);
        isCools(fast, 99, 98, 1, 1);
        isCools(fast, 99, 97, 2, 1);
        DropsDance slow = Check.told("down 0;");
        isCools(slow, 99, 0, 99, 99);
        isCools(slow, 1, 0, 1, 1);
        isCools(slow, 0, 0, 0, 0);
        DropsDance one = Check.told("down 1;");
        isCools(one, 99, 0, 99, 99);
        isCools(Check.told("down 2;"), 99, 0, 99, 98);
        DropsDance hiss = Check.told("up 99;down 99;hiss 50;");
        isCools(hiss, 49, 48, 1, 0);
        isCools(hiss, 50, 48, 1, 0);
        isCools(hiss, 51, 49, 1, 0);
        isCools(hiss, 51, 48, 2, 0);
    }

    /** Promise 29: BAD. */
    private static void sawBounds() {
        Stays s = busy();
        for (boolean up : new boolean[] {true, false}) {
            for (int size : new int[] {LOW, -1, 0, 61, HIGH}) {
                s.due("saw " + size, x -> x.saw(size, 5, up, 5), -1);
            }
            for (int heat : new int[] {LOW, -1, 100, HIGH}) {
                s.due("saw at " + heat, x -> x.saw(5, heat, up, 5), -1);
            }
            for (int life : new int[] {LOW, -1, 1000, 1001, HIGH}) {
                s.due("saw life " + life, x -> x.saw(5, 5, up, life), -1);
            }
        }
        for (int[] k : new int[][] {{1, 0, 0}, {2, 1, 1}, {59, 98, 998}, {60, 99, 999}}) {
            CHECK.due("saw at the edges", new DropsDance().saw(k[0], k[1], true, k[2]), 1);
            CHECK.due("saw at the edges", new DropsDance().saw(k[0], k[1], false, k[2]), 1);
        }
    }

    /** How many there are (12). FULL. */
    private static void sawTillFull() {
        for (int many = 10; many <= 12; many++) {
            DropsDance x = new DropsDance();
            for (int i = 0; i < many; i++) {
                CHECK.due("saw " + i, x.saw(10, 70, true, 28), i + 1);
            }
            CHECK.due("one more than " + many, x.saw(10, 70, true, 28), many < 12 ? many + 1 : -3);
            CHECK.due("told", x.count(2), Math.min(12, many + 1));
        }
        Stays full = new Stays(CHECK, "twelve lives", x -> {
            Stays.busy(x);
            for (int i = 3; i < 12; i++) {
                x.saw(1 + i, 10 * (i % 10), i % 2 == 0, i);
            }
        });
        full.due("FULL", x -> x.saw(1, 0, true, 1), -3);
        full.due("BAD before FULL", x -> x.saw(61, 0, true, 1), -1);
        full.due("BAD before FULL", x -> x.saw(1, 100, true, 1), -1);
        full.due("BAD before FULL", x -> x.saw(1, 0, true, 1000), -1);
        full.changes("forget", x -> x.forget(), 12);
    }

    /** Promise 30: how many there were. */
    private static void forget() {
        DropsDance x = new DropsDance();
        for (int many = 0; many <= 12; many++) {
            for (int i = 0; i < many; i++) {
                x.saw(1, 0, true, 1);
            }
            CHECK.due("forget", x.forget(), many);
            CHECK.due("none then", x.count(2), 0);
            CHECK.due("none is right", x.right(), 0);
            CHECK.due("any up fits", x.fits(0), 60);
        }
        CHECK.due("forget of none", x.forget(), 0);
        CHECK.due("the first again", x.saw(1, 0, true, 2), 1);
        CHECK.due("the one that was forgotten tells nothing", x.right(), 0);
    }

    /** Promise 31: what 0 to 2. BAD. */
    private static void fitsBounds() {
        Stays s = busy();
        for (int what : new int[] {LOW, -1, 3, 4, HIGH}) {
            s.due("fits what " + what, x -> x.fits(what), -1);
        }
        DropsDance none = new DropsDance();
        for (int what : new int[] {-1, 3}) {
            CHECK.due("fits what " + what + " of none", none.fits(what), -1);
        }
    }

    private static void isFits(String name, DropsDance x, int many, int least, int greatest) {
        CHECK.due(name + ": fits(0)", x.fits(0), many);
        CHECK.due(name + ": fits(1)", x.fits(1), least);
        CHECK.due(name + ": fits(2)", x.fits(2), greatest);
    }

    /** down to 99 (up is 1 at least), by all told LIVES; NONE. */
    private static void fitsEdges() {
        for (int down : new int[] {0, 1, 2, 3, 97, 98, 99}) {
            int least = Math.max(1, down);
            DropsDance x = Check.told("up 99;down " + down + ";film 9;");
            isFits("down " + down, x, 100 - least, least, 99);
            for (int heat = 0; heat <= 99; heat++) {
                int touching = (30 + heat / 10) / (1 + heat / 10), floating = 9 * 29 + 1;
                x.forget();
                x.saw(30, heat, true, floating);
                boolean some = heat >= least;
                isFits("floats at " + heat, x, some ? heat - least + 1 : 0, some ? least : -4, some ? heat : -4);
                x.forget();
                x.saw(30, heat, true, touching);
                int from = Math.max(least, heat + 1);
                boolean any = from <= 99;
                isFits("touches at " + heat, x, any ? 100 - from : 0, any ? from : -4, any ? 99 : -4);
                x.forget();
                x.saw(30, heat, false, heat >= down ? floating : touching);
                isFits("from above at " + heat, x, 100 - least, least, 99);
                x.saw(30, heat, false, heat >= down ? touching : floating);
                isFits("not so from above", x, 0, -4, -4);
            }
        }
        // Just one, by all told LIVES; none.
        DropsDance x = new DropsDance();
        x.saw(10, 70, true, 28);
        x.saw(10, 69, true, 2);
        isFits("just 70", x, 1, 70, 70);
        CHECK.due("up stays", x.rule(0), 60);
        CHECK.due("by RULES as they are", x.right(), 1);
        x.saw(10, 0, true, 11);
        isFits("none", x, 0, -4, -4);
    }

    /** Promise 32: bits 0 to 11. */
    private static void rightBits() {
        for (int wrong = -1; wrong < 12; wrong++) {
            DropsDance x = new DropsDance();
            for (int i = 0; i < 12; i++) {
                x.saw(10, 59 + i % 2, true, i == wrong ? 3 : i % 2 == 0 ? 2 : 28);
                CHECK.due("right of " + (i + 1), x.right(), (1 << i + 1) - 1 & (wrong >= 0 ? ~(1 << wrong) : -1));
            }
        }
        Stays s = busy();
        s.due("right", x -> x.right(), 0);
        DropsDance x = Check.told("up 50;down 40;");
        int[][] lives = {{49, 1, 2}, {49, 1, 28}, {50, 1, 28}, {50, 1, 2}, {39, 0, 3}, {39, 0, 28}, {40, 0, 28}, {40, 0, 2}};
        for (int[] k : lives) {
            x.saw(10, k[0], k[1] == 1, k[2]);
        }
        CHECK.due("right", x.right(), 0b1010101);
    }
}

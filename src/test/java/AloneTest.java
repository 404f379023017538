/** Promises 19 to 23: alone, reach, ring, falls, mend. */
public final class AloneTest {
    private static final Check CHECK = new Check();
    private static final long ALL = (1L << 61) - 2;

    public static void main(String[] args) {
        alone();
        reach();
        ring();
        falls();
        mend();
        wrongInputs();
        CHECK.end("AloneTest");
    }

    private static DropsDance hot(String text, int heat) {
        DropsDance x = Check.told(text);
        x.heat(heat);
        return x;
    }

    private static void isAlone(DropsDance x, int c, int size, int way, int n, int[] due) {
        for (int what = 0; what < 4; what++) {
            CHECK.due("alone(" + c + ", " + size + ", " + way + ", " + n + ", " + what + ")", x.alone(c, size, way, n, what), due[what]);
        }
    }

    private static void alone() {
        DropsDance x = hot("roll 60;row pppoppcppppp;", 60);
        x.go(1);
        x.drop(13, 20, 0);
        x.drop(2, 20, 0);
        isAlone(x, 0, 20, 1, 0, new int[] {0, 20, 0, -4});
        isAlone(x, 0, 20, 1, 1, new int[] {1, 19, 0, -4});
        // None others are there, nothing is drawn, it begins at TICK 0.
        isAlone(x, 0, 20, 1, 2, new int[] {2, 19, 0, -4});
        isAlone(x, 0, 20, 1, 3, new int[] {3, 19, 2, 2});
        isAlone(x, 0, 20, 1, 400, new int[] {3, 19, 2, 2});
        isAlone(x, 5, 20, 1, 3, new int[] {6, 5, 0, -4});
        isAlone(x, 5, 20, 1, 9, new int[] {6, 0, 1, 3});
        CHECK.due("seed stays", x.seed(0), 0);
        CHECK.due("tick stays", x.now(0), 1);
        CHECK.due("sums stay", x.now(4), 0);
        CHECK.due("drops stay", x.of(1, 1), 20);
        CHECK.due("count stays", x.count(0), 2);
        DropsDance leap = hot("leap 3;film 2;", 60);
        isAlone(leap, 0, 5, 1, 2, new int[] {2, 4, 0, -4});
        isAlone(leap, 0, 5, 1, 3, new int[] {2, 3, 3, 2});
        DropsDance cool = Check.told("");
        isAlone(cool, 0, 5, 1, 4, new int[] {0, 1, 0, -4});
        isAlone(cool, 0, 5, 1, 5, new int[] {0, 0, 1, 4});
        // The PLATE floats as it does now, from above, too.
        DropsDance above = hot("", 60);
        above.heat(40);
        isAlone(above, 0, 5, 1, 1, new int[] {1, 4, 0, -4});
        DropsDance small = hot("film 9;roll 60;", 60);
        isAlone(small, 50, 2, 1, 5, new int[] {55, 1, 0, -4});
        DropsDance longest = hot("film 9;chimney 99;", 60);
        isAlone(longest, 0, 60, 1, 400, new int[] {0, 15, 0, -4});
    }

    private static void reach() {
        DropsDance x = hot("film 9;chimney 99;row ppopppppppxp;", 60);
        CHECK.due("at once", x.reach(0, 60, 1, 0), 0);
        CHECK.due("one on", x.reach(0, 60, 1, 1), 1);
        CHECK.due("fallen", x.reach(0, 60, 1, 2), 2);
        CHECK.due("beyond the hole", x.reach(0, 60, 1, 3), -4);
        CHECK.due("a wall", x.reach(3, 60, 1, 10), -4);
        CHECK.due("behind the corner", x.reach(3, 60, 1, 21), 8);
        DropsDance life = hot("film 1;chimney 99;", 60);
        CHECK.due("it lives long enough", life.reach(0, 11, 1, 10), 10);
        CHECK.due("it does not", life.reach(0, 10, 1, 10), -4);
        // 400 TICKS are told of, no more: east, then round and round till that.
        DropsDance far = hot("film 9;chimney 99;teeth 1 20;row pppppppppppp;row pppppppppppp;row pppppppppppw;", 60);
        CHECK.due("never inside", far.reach(0, 60, 1, 13), -4);
        CHECK.due("sent by a tooth when small", far.reach(0, 22, 1, 34), soonest(far, 0, 22, 1, 34));
        DropsDance cold = hot("row ppcppppppppp;", 60);
        CHECK.due("to the cold one", cold.reach(0, 60, 1, 2), 2);
        CHECK.due("no further", cold.reach(0, 60, 1, 3), -4);
        CHECK.due("touching", Check.told("").reach(0, 60, 1, 1), -4);
        lastTick();
    }

    /** A tooth into a wall holds it at CELL 11 till it is too small for that: the 400th TICK counts, the 401st does not. */
    private static void lastTick() {
        // SIZE behind TICK 9 k: 1 and k less; below 17 it goes south.
        for (int size = 50; size <= 60; size++) {
            DropsDance x = hot("film 9;chimney 99;teeth 17 60;row pppppppppppe;", 60);
            int ticks = 9 * (size - 17) + 1;
            CHECK.due("held till it is small, size " + size, x.reach(11, size, 2, 23), ticks <= 400 ? ticks : -4);
        }
        // From SIZE 59 on it is free at TICK 49 times 8.
        DropsDance x = hot("film 8;chimney 99;teeth 10 60;row pppppppppppe;", 60);
        CHECK.due("behind 393", x.reach(11, 59, 2, 23), 393);
        CHECK.due("behind 399", x.reach(11, 59, 2, 95), 399);
        CHECK.due("behind 401", x.reach(11, 59, 2, 94), -4);
        DropsDance y = hot("film 7;chimney 99;teeth 4 60;row pppppppppppe;", 60);
        // From SIZE 60 on it is free at TICK 56 times 7, at CELL 95 behind 399 TICKS, and stays there for one.
        CHECK.due("behind 399", y.reach(11, 60, 2, 95), 399);
        y.put(95, 5);
        // Now it turns at CELL 83 behind 398, stays for one, is at CELL 82 behind 400.
        CHECK.due("behind 400 just", y.reach(11, 60, 2, 82), 400);
        CHECK.due("behind 401", y.reach(11, 60, 2, 81), -4);
    }

    private static int soonest(DropsDance x, int c, int size, int way, int goal) {
        for (int n = 0; n <= 400; n++) {
            if (x.alone(c, size, way, n, 0) == goal) {
                return n;
            }
        }
        return -4;
    }

    private static void isRing(DropsDance x, int c, int size, int way, int[] due) {
        for (int what = 0; what < 3; what++) {
            CHECK.due("ring(" + c + ", " + size + ", " + way + ", " + what + ")", x.ring(c, size, way, what), due[what]);
        }
    }

    private static void ring() {
        DropsDance x = Check.told("");
        isRing(x, 0, 5, 1, new int[] {0, 40, 36});
        isRing(x, 50, 5, 1, new int[] {10, 40, 36});
        isRing(x, 0, 5, 0, new int[] {0, 40, 36});
        isRing(x, 0, 5, 3, new int[] {1, 40, 36});
        DropsDance wall = Check.told("row eppppppppppp;row pxpppppppppp;");
        wall.put(1, 5);
        isRing(wall, 0, 5, 2, new int[] {0, 1, 1});
        isRing(wall, 0, 5, 1, new int[] {1, 1, 1});
        DropsDance teeth = Check.told("teeth 5 9;row essssssssssw;row nwpppppppppp;");
        isRing(teeth, 0, 5, 1, new int[] {1, 4, 4});
        isRing(teeth, 0, 9, 0, new int[] {0, 4, 4});
        isRing(teeth, 0, 4, 1, new int[] {0, 40, 36});
        isRing(teeth, 0, 10, 1, new int[] {0, 40, 36});
        DropsDance hole = Check.told("leap 9;row pppppppppppo;");
        isRing(hole, 0, 5, 1, new int[] {-4, -4, -4});
        isRing(hole, 0, 5, 3, new int[] {-4, -4, -4});
        isRing(hole, 12, 5, 1, new int[] {-4, -4, -4});
        DropsDance cold = Check.told("row pcpppppppppp;");
        isRing(cold, 0, 5, 1, new int[] {0, 40, 36});
        DropsDance shut = Check.told("row pxpppppppppp;row xppppppppppp;");
        isRing(shut, 0, 60, 3, new int[] {0, 4, 1});
    }

    private static void falls() {
        DropsDance x = Check.told("teeth 10 20;row pppsppppppop;row pppppppppppp;row pppopppppppp;");
        long sent = (1L << 21) - (1L << 10);
        CHECK.due("sent south", x.falls(0, 1, 27), sent);
        CHECK.due("others", x.falls(0, 1, 10), ALL - sent);
        CHECK.due("a wall or plain is no hole", x.falls(0, 1, 9), -2);
        CHECK.due("round the corners", x.falls(60, 1, 10), ALL - sent);
        x.put(50, 6);
        CHECK.due("none", x.falls(0, 1, 50), 0);
        CHECK.due("a hole to begin with", x.falls(10, 1, 10), -2);
        x.put(0, 5);
        CHECK.due("a wall to begin with", x.falls(0, 1, 10), -2);
        x.put(0, 7);
        CHECK.due("cold", x.falls(0, 1, 10), ALL - sent);
        DropsDance all = Check.told("row ppoppppppppp;");
        CHECK.due("all sizes", all.falls(0, 1, 2), ALL);
        DropsDance one = Check.told("teeth 60 60;row pspppppppppp;row oopppppppppp;");
        CHECK.due("just 60", one.falls(0, 1, 13), 1L << 60);
        CHECK.due("bad c", one.falls(96, 1, 12), -1);
        CHECK.due("bad c", one.falls(-1, 1, 12), -1);
        CHECK.due("bad way", one.falls(0, 4, 12), -1);
        CHECK.due("bad way", one.falls(0, -1, 12), -1);
        CHECK.due("bad goal", one.falls(0, 1, 96), -1);
        CHECK.due("bad goal before state", one.falls(12, 1, -1), -1);
    }

    private static void isMend(DropsDance x, int[] call, int[] due) {
        for (int what = 0; what < 3; what++) {
            CHECK.due("mend(" + call[0] + ", " + call[1] + ", " + call[2] + ", " + call[3] + ", " + what + ")",
                x.mend(call[0], call[1], call[2], call[3], what), due[what]);
        }
    }

    private static void mend() {
        DropsDance x = hot("film 9;", 60);
        isMend(x, new int[] {0, 60, 1, 2}, new int[] {-4, -4, -4});
        isMend(x, new int[] {0, 60, 1, 0}, new int[] {-4, -4, -4});
        isMend(x, new int[] {0, 60, 1, 12}, new int[] {1, 0, 2});
        isMend(x, new int[] {0, 60, 1, 13}, new int[] {2, 1, 2});
        isMend(x, new int[] {0, 60, 3, 2}, new int[] {2, 0, 1});
        isMend(x, new int[] {0, 60, 1, 50}, new int[] {6, 2, 2});
        isMend(x, new int[] {0, 60, 0, 2}, new int[] {2, 0, 1});
        isMend(x, new int[] {50, 60, 1, 38}, new int[] {1, 50, 0});
        isMend(x, new int[] {50, 60, 1, 51}, new int[] {-4, -4, -4});
        CHECK.due("the plate stays", x.cell(0), 4);
        DropsDance tooth = hot("film 9;row ppspppppppop;", 60);
        isMend(tooth, new int[] {0, 60, 1, 10}, new int[] {10, 2, 1});
        isMend(tooth, new int[] {0, 60, 1, 17}, new int[] {6, 14, 1});
        // Teeth send till TICK 17: only a plain one lets it round first, and by the last tooth then.
        DropsDance round = hot("teeth 10 60;film 9;row ppspppppwppp;row pxpppppppppp;row xpnpppppnppp;row pxwxpppppppp;"
            + "row pxpxpppppppp;row ppxppppppppp;", 60);
        isMend(round, new int[] {25, 12, 1, 50}, new int[] {19, 26, 4});
        // Held at CELL 11 till TICK 392 it is 401 TICKS from CELL 94; sent on, it is held at CELL 23, one nearer.
        DropsDance held = hot("film 8;chimney 99;teeth 10 60;row pppppppppppe;row pppppppppppe;", 60);
        CHECK.due("too far as it is", held.reach(11, 59, 2, 94), -4);
        isMend(held, new int[] {11, 59, 2, 94}, new int[] {400, 11, 2});
        isMend(held, new int[] {11, 59, 2, 93}, new int[] {-4, -4, -4});
        DropsDance wall = hot("film 9;row pxpppppppppp;row xppppppppppp;", 60);
        isMend(wall, new int[] {0, 60, 1, 50}, new int[] {-4, -4, -4});
        DropsDance plain = hot("film 9;row wppppppppppp;", 60);
        isMend(plain, new int[] {0, 60, 1, 5}, new int[] {5, 0, 1});
        DropsDance free = hot("film 9;chimney 99;teeth 1 9;", 60);
        isMend(free, new int[] {0, 60, 1, 13}, new int[] {-4, -4, -4});
        DropsDance cold = hot("film 9;row cppppppppppp;", 60);
        isMend(cold, new int[] {0, 60, 1, 5}, new int[] {-4, -4, -4});
        DropsDance keep = hot("film 9;", 60);
        keep.drop(1, 5, 0);
        isMend(keep, new int[] {0, 60, 1, 14}, new int[] {3, 2, 2});
    }

    private static void wrongInputs() {
        DropsDance x = hot("row xopppppppppp;", 60);
        int[][] bad = {{-1, 5, 1}, {96, 5, 1}, {5, 0, 1}, {5, 61, 1}, {5, 5, -1}, {5, 5, 4}, {0, 0, 1}};
        for (int[] b : bad) {
            CHECK.due("alone bad", x.alone(b[0], b[1], b[2], 0, 0), -1);
            CHECK.due("reach bad", x.reach(b[0], b[1], b[2], 7), -1);
            CHECK.due("ring bad", x.ring(b[0], b[1], b[2], 0), -1);
            CHECK.due("mend bad", x.mend(b[0], b[1], b[2], 7, 0), -1);
        }
        for (int c = 0; c < 2; c++) {
            CHECK.due("alone state", x.alone(c, 5, 1, 0, 0), -2);
            CHECK.due("reach state", x.reach(c, 5, 1, c), -2);
            CHECK.due("ring state", x.ring(c, 5, 1, 0), -2);
            CHECK.due("mend state", x.mend(c, 5, 1, c, 0), -2);
        }
        CHECK.due("alone n", x.alone(5, 5, 1, -1, 0), -1);
        CHECK.due("alone n", x.alone(5, 5, 1, 401, 0), -1);
        CHECK.due("alone n", x.alone(0, 5, 1, 401, 0), -1);
        CHECK.due("alone what", x.alone(5, 5, 1, 0, 4), -1);
        CHECK.due("alone what", x.alone(5, 5, 1, 0, -1), -1);
        CHECK.due("reach goal", x.reach(5, 5, 1, 96), -1);
        CHECK.due("reach goal", x.reach(5, 5, 1, -1), -1);
        CHECK.due("ring what", x.ring(5, 5, 1, 3), -1);
        CHECK.due("ring what", x.ring(5, 5, 1, -1), -1);
        CHECK.due("mend goal", x.mend(5, 5, 1, 96, 0), -1);
        CHECK.due("mend what", x.mend(5, 5, 1, 6, 3), -1);
        CHECK.due("mend what", x.mend(0, 5, 1, 6, -1), -1);
    }
}

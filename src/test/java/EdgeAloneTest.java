/** The edges of promises 19 to 23: each case with its neighbours, and that nothing changes. */
public final class EdgeAloneTest {
    private static final Check CHECK = new Check();
    private static final int LOW = Integer.MIN_VALUE, HIGH = Integer.MAX_VALUE;
    private static final int[] STEP = {-12, 1, 12, -1};

    public static void main(String[] args) {
        dropsToBe();
        wallsAndHoles();
        aloneBounds();
        aloneAsADropIs();
        aloneByItself();
        reachBounds();
        reachTill400();
        reachWhereItIsGone();
        ringBounds();
        ringOfAllKinds();
        ringBySize();
        ringFalls();
        fallsBounds();
        fallsBits();
        mendBounds();
        mendFirstOfSeveral();
        mendSooner();
        mendTill400();
        CHECK.end("EdgeAloneTest");
    }

    private static Stays busy() {
        return new Stays(CHECK, "busy", Stays::busy);
    }

    private static DropsDance hot(String text) {
        DropsDance x = Check.told(text);
        x.heat(99);
        return x;
    }

    /** One of the four calls that take a CELL, a SIZE and a WAY. */
    private static long call(DropsDance x, int which, int c, int size, int way) {
        switch (which) {
            case 0: return x.alone(c, size, way, 0, 1);
            case 1: return x.reach(c, size, way, 50);
            case 2: return x.ring(c, size, way, 0);
            default: return x.mend(c, size, way, 50, 0);
        }
    }

    /** BAD: a CELL 0 to 95, a SIZE 1 to 60, a WAY 0 to 3; nothing changes by any of them, taken or not. */
    private static void dropsToBe() {
        String[] names = {"alone", "reach", "ring", "mend"};
        Stays s = busy();
        for (int w = 0; w < 4; w++) {
            int which = w;
            for (int c : new int[] {LOW, -1, 96, 97, HIGH}) {
                s.due(names[w] + " from " + c, x -> call(x, which, c, 5, 1), -1);
            }
            for (int size : new int[] {LOW, -1, 0, 61, 62, HIGH}) {
                s.due(names[w] + " of " + size, x -> call(x, which, 50, size, 1), -1);
            }
            for (int way : new int[] {LOW, -1, 4, 5, HIGH}) {
                s.due(names[w] + " by " + way, x -> call(x, which, 50, 5, way), -1);
            }
            // BAD before STATE: 10 is a wall, 5 a hole.
            s.due(names[w] + " BAD, STATE", x -> call(x, which, 10, 0, 1), -1);
            s.due(names[w] + " BAD, STATE", x -> call(x, which, 5, 5, 4), -1);
            s.due(names[w] + " from a wall", x -> call(x, which, 10, 5, 1), -2);
            s.due(names[w] + " from a hole", x -> call(x, which, 5, 5, 1), -2);
            for (int[] k : new int[][] {{0, 1, 0}, {1, 2, 1}, {94, 59, 2}, {95, 60, 3}, {x6(), 8, 3}}) {
                DropsDance x = new DropsDance();
                Stays.busy(x);
                long due = call(x, which, k[0], k[1], k[2]);
                CHECK.holds(names[w] + " of ends is taken", due >= 0 || due == -4);
                s.due(names[w] + " from " + k[0], y -> call(y, which, k[0], k[1], k[2]), due);
            }
        }
    }

    /** Where a DROP is: one by itself may begin there. */
    private static int x6() {
        DropsDance x = new DropsDance();
        Stays.busy(x);
        return x.of(6, 0);
    }

    /** STATE: a wall, a hole; all other kinds are taken. */
    private static void wallsAndHoles() {
        for (int kind = 0; kind < 8; kind++) {
            boolean state = kind == 5 || kind == 6;
            for (int c : new int[] {0, 50, 95}) {
                DropsDance x = hot("film 9;");
                x.put(c, kind);
                CHECK.due("alone from " + kind, x.alone(c, 20, 1, 0, 1), state ? -2 : 20);
                CHECK.due("reach from " + kind, x.reach(c, 20, 1, c), state ? -2 : 0);
                CHECK.holds("ring from " + kind, state == (x.ring(c, 20, 1, 1) == -2));
                CHECK.due("mend from " + kind, x.mend(c, 20, 1, c, 0), state ? -2 : -4);
                CHECK.due("falls from " + kind, x.falls(c, 1, 40), -2);
            }
        }
    }

    /** Promise 19: n 0 to 400, what 0 to 3. BAD. */
    private static void aloneBounds() {
        Stays s = busy();
        for (int n : new int[] {LOW, -1, 401, 402, HIGH}) {
            s.due("alone behind " + n, x -> x.alone(50, 5, 1, n, 0), -1);
            s.due("BAD before STATE", x -> x.alone(5, 5, 1, n, 0), -1);
        }
        for (int what : new int[] {LOW, -1, 4, 5, HIGH}) {
            s.due("alone what " + what, x -> x.alone(50, 5, 1, 0, what), -1);
            s.due("BAD before STATE", x -> x.alone(10, 5, 1, 0, what), -1);
        }
        int[] sizes = {60, 59, 59, 59, 59, 59, 59, 59, 59, 59, 58};
        DropsDance x = hot("film 9;chimney 99;");
        for (int n = 0; n <= 10; n++) {
            CHECK.due("size behind " + n, x.alone(0, 60, 1, n, 1), sizes[n]);
        }
        for (int n : new int[] {394, 395, 396, 397, 398, 399, 400}) {
            CHECK.due("size behind " + n, x.alone(0, 60, 1, n, 1), 60 - 1 - (n - 1) / 9);
        }
        for (int what = 0; what < 4; what++) {
            int[] begun = {0, 60, 0, -4};
            CHECK.due("behind 0 TICKS, what " + what, x.alone(0, 60, 1, 0, what), begun[what]);
        }
    }

    /** ALONE from TICK 0 on is what a DROP does that is set down at TICK 0, for each n; also when it is GONE. */
    private static void aloneAsADropIs() {
        String[] texts = {"film 2;leap 3;row eppppoppppxc;row pppppppppppp;row wspppppppppp;", "chimney 5;film 1;teeth 7 20;row ssssssssssss;",
            "film 9;row pppxpppppppp;row ppcppppppppp;", "hiss 1;up 99;"};
        for (String text : texts) {
            for (int heat : new int[] {0, 30, 70}) {
                for (int size : new int[] {1, 2, 9, 39, 40, 60}) {
                    DropsDance x = Check.told(text);
                    x.heat(heat);
                    DropsDance y = Check.told(text);
                    y.heat(heat);
                    y.drop(1, size, 1);
                    for (int n = 0; n <= 60; n++) {
                        for (int what = 0; what < 4; what++) {
                            int same = what < 2 ? what : what + 1;
                            CHECK.due(text + " behind " + n + ", what " + what, x.alone(1, size, 1, n, what), y.of(0, same));
                        }
                        y.go(1);
                    }
                }
            }
        }
    }

    /** As HEAT is now, from TICK 0 on, none others there, nothing DRAWN. */
    private static void aloneByItself() {
        DropsDance x = hot("film 9;roll 60;chimney 60;");
        x.go(5);
        x.drop(1, 20, 2);
        CHECK.due("TICK 0 takes one, whatever TICK is", x.alone(0, 20, 1, 1, 1), 19);
        CHECK.due("none other is met", x.alone(0, 20, 1, 2, 0), 2);
        CHECK.due("from where one is", x.alone(1, 20, 1, 2, 0), 3);
        CHECK.due("the seed stays", x.seed(0), 0);
        x.heat(40);
        CHECK.due("down: it floats still", x.alone(0, 20, 1, 1, 0), 1);
        x.heat(39);
        CHECK.due("below down it touches", x.alone(0, 20, 1, 1, 0), 0);
        CHECK.due("and hisses", x.alone(0, 20, 1, 1, 1), 16);
        x.heat(59);
        CHECK.due("below up it touches", x.alone(0, 20, 1, 1, 0), 0);
        x.heat(60);
        CHECK.due("at up it floats", x.alone(0, 20, 1, 1, 0), 1);
    }

    /** Promise 20: goal 0 to 95. BAD; STATE likewise; NONE. */
    private static void reachBounds() {
        Stays s = busy();
        for (int goal : new int[] {LOW, -1, 96, 97, HIGH}) {
            s.due("reach " + goal, x -> x.reach(50, 5, 1, goal), -1);
            s.due("BAD before STATE", x -> x.reach(5, 5, 1, goal), -1);
        }
        s.due("STATE, also to itself", x -> x.reach(5, 5, 1, 5), -2);
        s.due("STATE, also to itself", x -> x.reach(10, 5, 1, 10), -2);
        s.due("behind 0 TICKS", x -> x.reach(50, 5, 1, 50), 0);
        s.due("a wall is never reached", x -> x.reach(9, 60, 1, 10), -4);
        DropsDance x = hot("film 9;");
        CHECK.due("goal 0", x.reach(12, 60, 0, 0), 1);
        CHECK.due("goal 95", x.reach(83, 60, 2, 95), 1);
        // The first number of TICKS: it comes there again and again.
        CHECK.due("the first", x.reach(0, 60, 1, 5), 5);
        CHECK.due("it stays for two", x.reach(0, 60, 1, 11), 11);
        CHECK.due("next behind it", x.reach(0, 60, 1, 23), 13);
    }

    /** 0 to 400 TICKS: 399, 400 count, 401 does not. */
    private static void reachTill400() {
        // Held by a TOOTH into the wall till its SIZE is below from, then south from CELL 11 on: 7 CELLS by 7 TICKS.
        DropsDance x = hot("film 7;chimney 99;teeth 4 60;row pppppppppppe;");
        for (int row = 1; row < 8; row++) {
            CHECK.due("row " + row, x.reach(11, 60, 2, 11 + 12 * row), 392 + row);
        }
        // At CELL 95 behind 399: it turns, is at CELL 94 behind 401.
        CHECK.due("behind 401", x.reach(11, 60, 2, 94), -4);
        x.put(95, 5);
        CHECK.due("behind 400", x.reach(11, 60, 2, 82), 400);
        CHECK.due("behind 401", x.reach(11, 60, 2, 81), -4);
        CHECK.due("alone behind 400", x.alone(11, 60, 2, 400, 0), 82);
        CHECK.due("alone behind 399", x.alone(11, 60, 2, 399, 0), 83);
        // A hole likewise.
        x.put(82, 6);
        CHECK.due("falls in the 400th", x.reach(11, 60, 2, 82), 400);
        CHECK.due("TICK 399", x.alone(11, 60, 2, 400, 3), 399);
        CHECK.due("not yet", x.alone(11, 60, 2, 399, 3), -4);
        x.put(82, 4);
        x.put(81, 6);
        CHECK.due("falls in the 401st", x.reach(11, 60, 2, 81), -4);
    }

    /** It is in a CELL, or has fallen there; when it is GONE otherwise it comes nowhere. */
    private static void reachWhereItIsGone() {
        DropsDance x = hot("film 9;row ppoppppppppp;");
        CHECK.due("fallen", x.reach(0, 60, 1, 2), 2);
        CHECK.due("no further", x.reach(0, 60, 1, 3), -4);
        for (int size = 9; size <= 11; size++) {
            DropsDance y = hot("film 1;");
            CHECK.due("size " + size + " behind 9", y.reach(0, size, 1, 9), size >= 10 ? 9 : -4);
            CHECK.due("size " + size + " behind 10", y.reach(0, size, 1, 10), size >= 11 ? 10 : -4);
            DropsDance leap = hot("film 1;leap 5;");
            CHECK.due("leaping size " + size, leap.reach(0, size, 1, size - 6), size - 6);
            CHECK.due("leaping size " + size, leap.reach(0, size, 1, size - 5), -4);
        }
        DropsDance cold = hot("row ppcppppppppp;");
        CHECK.due("to a cold one", cold.reach(0, 60, 1, 2), 2);
        CHECK.due("not beyond", cold.reach(0, 60, 1, 3), -4);
        CHECK.due("none where it touches", Check.told("").reach(0, 60, 1, 1), -4);
        CHECK.due("itself where it touches", Check.told("").reach(0, 60, 1, 0), 0);
    }

    /** Promise 21: what 0 to 2. BAD; STATE likewise. */
    private static void ringBounds() {
        Stays s = busy();
        for (int what : new int[] {LOW, -1, 3, 4, HIGH}) {
            s.due("ring what " + what, x -> x.ring(50, 5, 1, what), -1);
            s.due("BAD before STATE", x -> x.ring(5, 5, 1, what), -1);
        }
        s.due("STATE before NONE", x -> x.ring(5, 5, 1, 2), -2);
    }

    private static void isRing(String name, DropsDance x, int c, int size, int way, int... due) {
        for (int what = 0; what < 3; what++) {
            CHECK.due(name + ": ring(" + c + ", " + size + ", " + way + ", " + what + ")", x.ring(c, size, way, what), due[what]);
        }
    }

    /** The smallest, with nothing ahead of it, with one ahead of it; the round of the whole PLATE. */
    private static void ringOfAllKinds() {
        DropsDance x = new DropsDance();
        isRing("round", x, 0, 5, 1, 0, 40, 36);
        isRing("round", x, 0, 5, 0, 0, 40, 36);
        isRing("one ahead", x, 0, 5, 3, 1, 40, 36);
        isRing("one ahead", x, 12, 5, 3, 1, 40, 36);
        isRing("in it", x, 12, 5, 0, 0, 40, 36);
        isRing("against it", x, 12, 5, 2, 7, 40, 36);
        DropsDance shut = new DropsDance();
        for (int way = 0; way < 4; way++) {
            shut.put(50 + STEP[way], 5);
        }
        for (int way = 0; way < 4; way++) {
            isRing("shut in", shut, 50, 5, way, 0, 4, 1);
        }
        // A TOOTH into the wall: its WAY is 1 from the first TICK on.
        DropsDance tooth = Check.told("row nppppppppppp;");
        isRing("a tooth into the wall", tooth, 0, 5, 1, 0, 1, 1);
        isRing("a tooth into the wall", tooth, 0, 5, 0, 1, 1, 1);
        isRing("a tooth into the wall", tooth, 0, 5, 2, 1, 1, 1);
        isRing("to the tooth", tooth, 1, 5, 3, 2, 1, 1);
        // Two CELLS to and fro: two TEETH.
        DropsDance two = Check.told("row ewpppppppppp;");
        isRing("to and fro", two, 0, 5, 3, 0, 2, 2);
        isRing("to and fro", two, 0, 5, 1, 1, 2, 2);
        isRing("to and fro", two, 1, 5, 1, 0, 2, 2);
        // Cold CELLS are floated over, HEAT does not matter, nothing is lost, none LEAPS.
        DropsDance cold = Check.told("leap 9;film 1;row cccccccccccc;");
        isRing("cold", cold, 0, 1, 1, 0, 40, 36);
        cold.heat(99);
        isRing("cold, hot", cold, 0, 1, 1, 0, 40, 36);
    }

    /** TEETH from to to: the SIZE stays. */
    private static void ringBySize() {
        DropsDance x = Check.told("film 1;teeth 10 20;row ewpppppppppp;");
        for (int size : new int[] {1, 9, 10, 11, 19, 20, 21, 60}) {
            boolean sent = size >= 10 && size <= 20;
            isRing("size " + size, x, 0, size, 3, sent ? 0 : 1, sent ? 2 : 40, sent ? 2 : 36);
        }
    }

    /** NONE: it falls, at the first TICK or late. */
    private static void ringFalls() {
        DropsDance x = Check.told("row ppoppppppppp;");
        isRing("next", x, 1, 5, 1, -4, -4, -4);
        isRing("two on", x, 0, 5, 1, -4, -4, -4);
        isRing("round, then", x, 3, 5, 1, -4, -4, -4);
        isRing("round, from above", x, 14, 5, 0, -4, -4, -4);
        isRing("it passes by", Check.told("row pppppppppppp;row poppppppppop;"), 0, 5, 1, 0, 40, 36);
        // All CELLS one behind another by TEETH, into the last one.
        String snake = "row eeeeeeeeeees;row swwwwwwwwwww;".repeat(4);
        DropsDance all = Check.told(snake);
        all.put(84, 6);
        isRing("the longest way", all, 0, 5, 1, -4, -4, -4);
        CHECK.due("falls from the first on", all.falls(0, 1, 84), (1L << 61) - 2);
        // A TOOTH into the wall there: at it behind 95, its WAY is 0 from the next on.
        all.put(84, 3);
        isRing("the longest way to a ring", all, 0, 5, 1, 96, 1, 1);
        // North to CELL 72, where it came by WAY 2 first and comes by WAY 0 then: the last two rows for good, from CELL 73 on.
        all.put(84, 0);
        isRing("a ring of two rows", all, 0, 5, 1, 73, 24, 24);
    }

    /** Promise 22: BAD -1; STATE -2: a wall, a hole to begin with, goal is no hole. */
    private static void fallsBounds() {
        Stays s = busy();
        for (int c : new int[] {LOW, -1, 96, HIGH}) {
            s.due("falls from " + c, x -> x.falls(c, 1, 5), -1);
            s.due("falls to " + c, x -> x.falls(0, 1, c), -1);
            s.due("BAD before STATE", x -> x.falls(5, 1, c), -1);
            s.due("BAD before STATE", x -> x.falls(c, 1, 0), -1);
        }
        for (int way : new int[] {LOW, -1, 4, HIGH}) {
            s.due("falls by " + way, x -> x.falls(0, way, 5), -1);
            s.due("BAD before STATE", x -> x.falls(5, way, 0), -1);
        }
        s.due("from a wall", x -> x.falls(10, 1, 5), -2);
        s.due("from a hole", x -> x.falls(5, 1, 5), -2);
        s.due("from another hole", x -> x.falls(22, 1, 5), -2);
        for (int kind = 0; kind < 8; kind++) {
            for (int goal : new int[] {0, 95}) {
                DropsDance x = new DropsDance();
                x.put(goal, kind);
                int from = goal == 0 ? 12 : 83, way = goal == 0 ? 0 : 2;
                CHECK.due("to a CELL that is " + kind, x.falls(from, way, goal), kind == 6 ? (1L << 61) - 2 : -2);
            }
        }
        s.due("falls", x -> x.falls(4, 1, 5), (1L << 61) - 2);
        s.due("none falls", x -> x.falls(4, 1, 23), 0);
    }

    /** SIZES are bits 1 to 60, whatever teeth are. */
    private static void fallsBits() {
        int[][] teeth = {{1, 1}, {1, 2}, {1, 59}, {1, 60}, {2, 2}, {2, 59}, {2, 60}, {30, 31}, {59, 59}, {59, 60}, {60, 60}};
        for (int[] t : teeth) {
            DropsDance x = Check.told("teeth " + t[0] + " " + t[1] + ";row pspopppppppp;row pppppppppppp;row popppppppppp;");
            long sent = 0, others = 0;
            for (int size = 1; size <= 60; size++) {
                if (size >= t[0] && size <= t[1]) {
                    sent |= 1L << size;
                } else {
                    others |= 1L << size;
                }
            }
            CHECK.due("sent by " + t[0] + " " + t[1], x.falls(0, 1, 25), sent);
            CHECK.due("others by " + t[0] + " " + t[1], x.falls(0, 1, 3), others);
            // HEAT does not matter, nor leap, nor a DROP on the way.
            x.heat(99);
            x.drop(1, 9, 0);
            CHECK.due("sent, hot", x.falls(0, 1, 25), sent);
        }
    }

    private static void isMend(String name, DropsDance x, int[] call, int... due) {
        for (int what = 0; what < 3; what++) {
            CHECK.due(name + ": mend what " + what, x.mend(call[0], call[1], call[2], call[3], what), due[what]);
        }
    }

    /** Promise 23: BAD; STATE; NONE; THE PLATE stays. */
    private static void mendBounds() {
        Stays s = busy();
        for (int goal : new int[] {LOW, -1, 96, HIGH}) {
            s.due("mend to " + goal, x -> x.mend(50, 5, 1, goal, 0), -1);
            s.due("BAD before STATE", x -> x.mend(5, 5, 1, goal, 0), -1);
        }
        for (int what : new int[] {LOW, -1, 3, 4, HIGH}) {
            s.due("mend what " + what, x -> x.mend(50, 5, 1, 51, what), -1);
            s.due("BAD before STATE", x -> x.mend(10, 5, 1, 51, what), -1);
        }
        s.due("STATE before NONE", x -> x.mend(10, 5, 1, 10, 0), -2);
        s.due("mended", x -> x.mend(50, 20, 1, 62, 0), 1);
        s.due("mended", x -> x.mend(50, 20, 1, 62, 1), 50);
        s.due("mended", x -> x.mend(50, 20, 1, 62, 2), 2);
        s.due("NONE: at once", x -> x.mend(50, 20, 1, 50, 0), -4);
        s.due("NONE: no sooner", x -> x.mend(50, 20, 1, 51, 0), -4);
        s.due("NONE: a wall", x -> x.mend(50, 20, 1, 10, 0), -4);
    }

    /** Of several the first by CELLS, then by what it becomes; only n, e, s, w, p are mended, to these. */
    private static void mendFirstOfSeveral() {
        DropsDance x = hot("film 9;");
        // Two on and two down: turned at 52 alone.
        isMend("turned at one", x, new int[] {50, 60, 1, 76}, 4, 52, 2);
        isMend("no stay in the corner", x, new int[] {0, 60, 1, 95}, 18, 11, 2);
        // As soon by 1 or by 2, where 13 sends east; by 3 or by 4, where 16 sends west: the lesser CELL, not the one met first.
        DropsDance several = hot("film 9;row pppppppppppp;row pepppppppppp;");
        isMend("1 before 2", several, new int[] {0, 60, 1, 14}, 3, 1, 2);
        several.put(13, 4);
        isMend("2 alone", several, new int[] {0, 60, 1, 14}, 3, 2, 2);
        several.put(16, 3);
        isMend("3 before 4", several, new int[] {5, 60, 3, 15}, 3, 3, 2);
        // A TOOTH or none at CELL 0: e is before p.
        DropsDance n = hot("film 9;row nppppppppppp;");
        isMend("e before p", n, new int[] {0, 60, 1, 1}, 1, 0, 1);
        DropsDance w = hot("film 9;row wppppppppppp;");
        isMend("e before p", w, new int[] {0, 60, 1, 3}, 3, 0, 1);
        isMend("s alone", w, new int[] {0, 60, 1, 12}, 1, 0, 2);
        // n by its own WAY: n is before p.
        DropsDance e = hot("film 9;");
        e.put(50, 1);
        isMend("n before p", e, new int[] {50, 60, 0, 38}, 1, 50, 0);
        e.put(50, 0);
        isMend("s before p", e, new int[] {50, 60, 2, 62}, 1, 50, 2);
        isMend("w before p", e, new int[] {50, 60, 3, 49}, 1, 50, 3);
        // 63 is below 51: it is mended at 51, unless that is no such CELL (cold, a hole) or sends south already.
        for (int kind : new int[] {0, 1, 2, 3, 4, 6, 7}) {
            DropsDance one = hot("film 9;");
            one.put(51, kind);
            boolean mends = kind <= 4 && kind != 2;
            isMend("kind " + kind, one, new int[] {50, 60, 1, 63}, mends ? 2 : -4, mends ? 51 : -4, mends ? 2 : -4);
        }
        // A wall ahead: only where it stands can be mended, and its own WAY then is the TOOTH's.
        DropsDance wall = hot("film 9;");
        wall.put(51, 5);
        isMend("by a wall", wall, new int[] {50, 60, 1, 38}, 1, 50, 0);
        CHECK.due("as it is", wall.reach(50, 60, 1, 62), 2);
        isMend("by a wall, sooner", wall, new int[] {50, 60, 1, 62}, 1, 50, 2);
    }

    /** Sooner than as it is; that being none: any. */
    private static void mendSooner() {
        DropsDance x = hot("film 9;");
        CHECK.due("as it is", x.reach(0, 60, 1, 23), 13);
        isMend("one sooner", x, new int[] {0, 60, 1, 23}, 12, 11, 2);
        CHECK.due("as it is", x.reach(0, 60, 3, 1), 3);
        isMend("two sooner", x, new int[] {0, 60, 3, 1}, 1, 0, 1);
        CHECK.due("as it is", x.reach(0, 60, 1, 11), 11);
        isMend("no sooner", x, new int[] {0, 60, 1, 11}, -4, -4, -4);
        // Teeth that do not send it help nothing.
        DropsDance free = hot("film 9;chimney 99;teeth 1 9;");
        isMend("not sent", free, new int[] {0, 60, 1, 13}, -4, -4, -4);
        DropsDance some = hot("film 9;chimney 99;teeth 10 10;");
        isMend("9, never sent", some, new int[] {0, 9, 1, 13}, -4, -4, -4);
        isMend("10, 9 at TICK 0", some, new int[] {0, 10, 1, 13}, -4, -4, -4);
        isMend("11, sent at TICKS 0 to 8", some, new int[] {0, 11, 1, 13}, 2, 1, 2);
        isMend("12, sent at TICKS 9 to 17", some, new int[] {0, 12, 1, 13}, 23, 23, 3);
        // Another one's CELL may be mended: it is by itself.
        DropsDance there = hot("film 9;");
        there.drop(1, 9, 0);
        isMend("where one is", there, new int[] {0, 60, 1, 13}, 2, 1, 2);
        CHECK.due("that CELL stays", there.cell(1), 4);
        // It falls into a goal that is a hole.
        DropsDance hole = hot("film 9;row pppppppppppp;row popppppppppp;");
        isMend("into a hole", hole, new int[] {0, 60, 1, 13}, 2, 1, 2);
    }

    /** REACH is 400 at most, when it is mended, too. */
    private static void mendTill400() {
        DropsDance x = hot("film 8;chimney 99;teeth 10 60;row pppppppppppe;row pppppppppppe;");
        CHECK.due("behind 401 as it is", x.reach(11, 59, 2, 94), -4);
        isMend("behind 400", x, new int[] {11, 59, 2, 94}, 400, 11, 2);
        isMend("behind 401", x, new int[] {11, 59, 2, 93}, -4, -4, -4);
    }
}

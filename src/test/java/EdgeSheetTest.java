/** The edges of promises 33 to 37: each case with its neighbours, and what a refused call leaves. */
public final class EdgeSheetTest {
    private static final Check CHECK = new Check();
    private static final int LOW = Integer.MIN_VALUE, HIGH = Integer.MAX_VALUE;

    public static void main(String[] args) {
        sheetBounds();
        sheetIsNew();
        layBounds();
        layLowestBits();
        readBounds();
        readMany();
        readIndex();
        readNullAndCast();
        readRefusedByDrop();
        readFull();
        readFirstMet();
        tornOfTheLatest();
        countBounds();
        countEdges();
        CHECK.end("EdgeSheetTest");
    }

    private static Stays busy() {
        return new Stays(CHECK, "busy", Stays::busy);
    }

    private static void isRead(String name, DropsDance x, int[] call, int came, int torn) {
        String text = name + ": read(" + call[0] + ", " + call[1] + ", " + call[2] + ", " + call[3] + ")";
        CHECK.due(text, x.read(call[0], call[1], call[2], call[3]), came);
        CHECK.due("torn() behind " + text, x.torn(), torn);
    }

    /** Promise 33: BAD: also n above 40; -10 - 4. */
    private static void sheetBounds() {
        Stays s = busy();
        for (int v : new int[] {LOW, -1, 4, 5, HIGH}) {
            s.due("sheet " + v, x -> x.sheet(v, 0, 5), -1);
            s.due("BAD before SIZE", x -> x.sheet(v, 0, -1), -1);
        }
        for (int v : new int[] {LOW, -1, 3, 4, HIGH}) {
            s.due("lane " + v, x -> x.sheet(0, v, 5), -1);
            s.due("BAD before SIZE", x -> x.sheet(0, v, -1), -1);
        }
        for (int k = 0; k < 4; k++) {
            int sheet = k;
            for (int n : new int[] {41, 42, HIGH}) {
                s.due("n " + n, x -> x.sheet(sheet, 0, n), -1);
            }
            for (int n : new int[] {LOW, -2, -1}) {
                s.due("n " + n, x -> x.sheet(sheet, 2, n), -14);
            }
        }
        for (int k = 0; k < 4; k++) {
            for (int lane = 0; lane < 3; lane++) {
                for (int n : new int[] {0, 1, 39, 40}) {
                    DropsDance x = new DropsDance();
                    CHECK.due("sheet(" + k + ", " + lane + ", " + n + ")", x.sheet(k, lane, n), 1);
                    for (int i = -1; i <= 41; i++) {
                        CHECK.due("lay " + i + " of " + n, x.lay(k, i, 0), i < 0 || i >= n ? -12 : 1);
                    }
                    for (int other = 0; other < 4; other++) {
                        CHECK.due("sheet " + other, x.lay(other, 0, 0), other != k ? -11 : n == 0 ? -12 : 1);
                    }
                }
            }
        }
    }

    /** A new row of CELLS 0, also where there was one. */
    private static void sheetIsNew() {
        DropsDance x = new DropsDance();
        x.put(0, 5);
        Stays.sheetOf(x, 1, 2, 50, 9, 1, 51, 9, 1);
        isRead("as it was laid", x, new int[] {1, 2, 0, 2}, 2, 0);
        x.sheet(1, 2, 6);
        // CELL 0 is a wall, SIZE 0 is BAD.
        isRead("all 0", x, new int[] {1, 2, 0, 1}, -20, 0);
        x.lay(1, 1, 9);
        isRead("CELL 0 is a wall", x, new int[] {1, 2, 0, 1}, -20, 0);
        x.put(0, 4);
        isRead("CELL 0, WAY 0", x, new int[] {1, 2, 0, 1}, 1, 0);
        CHECK.due("its CELL", x.of(2, 0), 0);
        CHECK.due("its WAY", x.of(2, 2), 0);
        // Shorter, then as long again: nothing of the old ones comes back.
        DropsDance y = new DropsDance();
        Stays.sheetOf(y, 0, 0, 50, 9, 1, 51, 9, 1);
        y.sheet(0, 0, 3);
        y.sheet(0, 0, 6);
        isRead("gone", y, new int[] {0, 0, 3, 1}, -20, 0);
        CHECK.due("count(6)", y.count(6), 6);
    }

    /** Promise 34: BAD: k; -10 less the FAULT: NULL, INDEX. */
    private static void layBounds() {
        Stays s = busy();
        for (int k : new int[] {LOW, -1, 4, 5, HIGH}) {
            s.due("lay of sheet " + k, x -> x.lay(k, 0, 5), -1);
            s.due("BAD before INDEX", x -> x.lay(k, -1, 5), -1);
        }
        int[] cells = {9, 6, 12};
        for (int k = 0; k < 3; k++) {
            int sheet = k;
            for (int i : new int[] {LOW, -1, cells[k], cells[k] + 1, HIGH}) {
                s.due("lay(" + k + ", " + i + ")", x -> x.lay(sheet, i, 5), -12);
            }
            s.changes("the first", x -> x.lay(sheet, 0, 0), 1);
            s.changes("the last", x -> x.lay(sheet, cells[sheet] - 1, 5), 1);
        }
        for (int i : new int[] {LOW, -1, 0, 1, 40, HIGH}) {
            s.due("NULL", x -> x.lay(3, i, 5), -11);
        }
    }

    /** CELL i becomes v, its lowest bits: 8, 16, 32 of them, the highest of these below 0. */
    private static void layLowestBits() {
        int[][] values = {{5, 5, 5, 5}, {256 + 5, 5, 261, 261}, {65536 + 5, 5, 5, 65541}, {-256 + 5, 5, -251, -251}, {-65536 + 5, 5, 5, -65531},
            {128 + 5, -123, 133, 133}, {32768 + 5, 5, -32763, 32773}, {-1, -1, -1, -1}, {255, -1, 255, 255}, {65535, -1, -1, 65535},
            {95, 95, 95, 95}, {96, 96, 96, 96}, {127, 127, 127, 127}, {128, -128, 128, 128}, {256, 0, 256, 256}, {65536, 0, 0, 65536},
            {LOW, 0, 0, LOW}, {HIGH, -1, -1, HIGH}, {LOW + 7, 7, 7, LOW + 7}};
        for (int[] v : values) {
            for (int lane = 0; lane < 3; lane++) {
                int due = v[1 + lane];
                boolean cell = due >= 0 && due <= 95;
                DropsDance x = new DropsDance();
                Stays.sheetOf(x, 0, lane, v[0], 256 * 256 * 4 + 9, -65536 + 3);
                if (lane == 2) {
                    x.lay(0, 1, 9);
                    x.lay(0, 2, 3);
                }
                isRead("lane " + lane + " of " + v[0], x, new int[] {0, lane, 0, 1}, cell ? 1 : -20, 0);
                if (cell) {
                    CHECK.due("CELL", x.of(0, 0), due);
                    CHECK.due("SIZE", x.of(0, 1), 9);
                    CHECK.due("WAY", x.of(0, 2), 3);
                }
            }
        }
        // The neighbours stay.
        DropsDance x = new DropsDance();
        Stays.sheetOf(x, 0, 0, 50, 9, 1);
        x.lay(0, 1, 60);
        isRead("the middle one", x, new int[] {0, 0, 0, 1}, 1, 0);
        CHECK.due("CELL", x.of(0, 0), 50);
        CHECK.due("SIZE", x.of(0, 1), 60);
        CHECK.due("WAY", x.of(0, 2), 1);
    }

    /** Promise 35: BAD: k, lane, n (0 to 12). */
    private static void readBounds() {
        Stays s = busy();
        for (int k : new int[] {LOW, -1, 4, 5, HIGH}) {
            s.due("read of " + k, x -> x.read(k, 0, 0, 1), -1);
            s.due("read of " + k, x -> x.read(k, 0, 0, 0), -1);
        }
        for (int lane : new int[] {LOW, -1, 3, 4, HIGH}) {
            s.due("lane " + lane, x -> x.read(0, lane, 0, 1), -1);
            s.due("lane " + lane, x -> x.read(3, lane, 0, 0), -1);
        }
        for (int n : new int[] {LOW, -1, 13, 14, HIGH}) {
            s.due("n " + n, x -> x.read(0, 0, 0, n), -1);
            s.due("BAD before NULL", x -> x.read(3, 0, 0, n), -1);
            s.due("BAD before CAST", x -> x.read(0, 1, 0, n), -1);
            s.due("BAD before INDEX", x -> x.read(0, 0, -1, n), -1);
        }
    }

    private static DropsDance withRow(int lane, int cells) {
        DropsDance x = new DropsDance();
        x.sheet(0, lane, cells);
        for (int i = 0; i < cells; i++) {
            x.lay(0, i, i % 3 == 0 ? 20 + i : i % 3 == 1 ? 60 - i : i / 3 % 4);
        }
        return x;
    }

    /** How many came: 0, 1, 11, 12; each as by drop(), one behind another. */
    private static void readMany() {
        for (int lane = 0; lane < 3; lane++) {
            for (int n : new int[] {0, 1, 2, 11, 12}) {
                DropsDance x = withRow(lane, 40);
                isRead("of 40", x, new int[] {0, lane, 0, n}, n, 0);
                CHECK.due("DROPS", x.count(0), n);
                int sum = 0;
                for (int d = 0; d < n; d++) {
                    CHECK.due("CELL", x.of(d, 0), 20 + 3 * d);
                    CHECK.due("SIZE", x.of(d, 1), 59 - 3 * d);
                    CHECK.due("WAY", x.of(d, 2), d % 4);
                    CHECK.due("at", x.at(20 + 3 * d), d);
                    sum += 59 - 3 * d;
                }
                CHECK.due("set down", x.now(7), sum);
                CHECK.due("there", x.now(3), sum);
                CHECK.due("no more", x.of(n, 0), -1);
            }
        }
    }

    /** Those that were whole ahead come: INDEX at each of the three CELLS, and just none. */
    private static void readIndex() {
        for (int cells = 0; cells <= 12; cells++) {
            for (int f = 0; f <= 12; f += 3) {
                for (int n = 0; n <= 5; n++) {
                    DropsDance x = withRow(1, cells);
                    int whole = Math.max(0, (cells - f) / 3), came = Math.min(n, whole);
                    isRead(cells + " cells", x, new int[] {0, 1, f, n}, came, came < n ? 2 : 0);
                    CHECK.due("DROPS", x.count(0), came);
                    for (int d = 0; d < came; d++) {
                        CHECK.due("CELL", x.of(d, 0), 20 + f + 3 * d);
                    }
                }
            }
        }
        for (int f : new int[] {LOW, LOW + 1, -37, -36, -4, -3, -2, -1, 38, 39, 40, 41, HIGH - 36, HIGH - 2, HIGH - 1, HIGH}) {
            for (int n : new int[] {1, 2, 12}) {
                DropsDance x = withRow(0, 40);
                isRead("f " + f, x, new int[] {0, 0, f, n}, 0, 2);
                CHECK.due("DROPS", x.count(0), 0);
            }
        }
        for (int f : new int[] {36, 37}) {
            DropsDance x = withRow(2, 40);
            x.lay(0, 37, 9);
            x.lay(0, 38, 3);
            x.lay(0, 39, 1);
            isRead("the last whole one", x, new int[] {0, 2, f, 2}, 1, 2);
        }
        Stays s = busy();
        s.due("INDEX alone changes torn(): 3 then", x -> {
            x.read(0, 0, 9, 1);
            return x.read(0, 1, 0, 1);
        }, 0);
    }

    /** NULL: nothing, whatever the lane; CAST: another lane; none where no CELL is read (n 0). */
    private static void readNullAndCast() {
        for (int made = -1; made < 3; made++) {
            for (int lane = 0; lane < 3; lane++) {
                for (int f : new int[] {LOW, -1, 0, 5, 6, HIGH}) {
                    for (int n : new int[] {0, 1, 12}) {
                        DropsDance x = new DropsDance();
                        if (made >= 0) {
                            Stays.sheetOf(x, 2, made, 50, 9, 1, 51, 9, 1);
                        }
                        boolean index = f < 0 || f >= 6;
                        int fault = n == 0 ? 0 : made < 0 ? 1 : made != lane ? 3 : index ? 2 : 0;
                        if (fault == 0 && n > 0 && f == 0) {
                            isRead("whole", x, new int[] {2, lane, f, n}, n == 1 ? 1 : 2, n == 1 ? 0 : 2);
                        } else {
                            isRead("made of " + made, x, new int[] {2, lane, f, n}, 0, fault == 0 && n > 0 ? 2 : fault);
                        }
                        CHECK.due("DROPS", x.count(0), fault == 0 && n > 0 && f == 0 ? Math.min(n, 2) : 0);
                    }
                }
            }
        }
        // Of no CELLS: CAST before INDEX.
        DropsDance x = new DropsDance();
        x.sheet(0, 1, 0);
        isRead("no CELLS, its lane", x, new int[] {0, 1, 0, 1}, 0, 2);
        isRead("no CELLS, another lane", x, new int[] {0, 0, 0, 1}, 0, 3);
        isRead("no CELLS, none", x, new int[] {0, 0, 0, 0}, 0, 0);
    }

    /** -20 less i: DROP i, whole, is refused by drop() as BAD or STATE: then none came, and all stays. */
    private static void readRefusedByDrop() {
        int[][] refused = {{-1, 9, 1}, {96, 9, 1}, {95, 0, 1}, {95, 61, 1}, {95, 9, -1}, {95, 9, 4}, {10, 9, 1}, {5, 9, 1}, {78, 9, 1}};
        for (int[] three : refused) {
            for (int place = 0; place < 4; place++) {
                int at = place;
                Stays s = new Stays(CHECK, "refused " + place, x -> {
                    Stays.busy(x);
                    for (int j = 0; j < 3; j++) {
                        x.lay(2, 3 * at + j, three[j]);
                    }
                });
                s.due("read of 4", x -> x.read(2, 2, 0, 4), -20 - at);
                s.due("read of just so many", x -> x.read(2, 2, 0, at + 1), -20 - at);
                s.due("read behind others", x -> x.read(2, 2, 3 * at, 1), -20);
                if (at > 0) {
                    s.changes("those ahead", x -> x.read(2, 2, 0, at), at);
                }
            }
        }
        // One that came ahead is there already.
        DropsDance x = new DropsDance();
        Stays.sheetOf(x, 0, 0, 50, 9, 1, 51, 9, 1, 50, 9, 1);
        isRead("twice the same CELL", x, new int[] {0, 0, 0, 3}, -22, 0);
        CHECK.due("none came", x.count(0), 0);
        CHECK.due("none is there", x.at(50), -4);
        CHECK.due("no water", x.now(7), 0);
        isRead("two of them", x, new int[] {0, 0, 0, 2}, 2, 0);
        isRead("now the first is", x, new int[] {0, 0, 0, 2}, -20, 0);
        CHECK.due("two stay", x.count(0), 2);
        // The 12th, -31.
        DropsDance y = withRow(2, 40);
        y.lay(0, 34, 0);
        isRead("the 12th", y, new int[] {0, 2, 0, 12}, -31, 0);
        CHECK.due("none came", y.count(0), 0);
        isRead("the 11 ahead", y, new int[] {0, 2, 0, 11}, 11, 0);
    }

    /** FULL: likewise. */
    private static void readFull() {
        for (int there = 8; there <= 12; there++) {
            int before = there;
            Stays s = new Stays(CHECK, there + " there", x -> {
                Stays.busy(x);
                for (int i = 7; i < before; i++) {
                    x.drop(80 + i, 5, 1);
                }
                x.lay(2, 0, 60);
                x.lay(2, 3, 61);
                x.lay(2, 6, 62);
                x.lay(2, 9, 63);
            });
            for (int n = 1; n <= 4; n++) {
                int many = n;
                if (there + n > 12) {
                    s.due("read of " + n, x -> x.read(2, 2, 0, many), -3);
                } else {
                    s.changes("read of " + n, x -> x.read(2, 2, 0, many), n);
                }
            }
            // Four are whole: FULL is met before the machine refuses the fifth.
            if (there == 8) {
                s.changes("read of 12", x -> x.read(2, 2, 0, 12), 4);
            } else {
                s.due("read of 12", x -> x.read(2, 2, 0, 12), -3);
            }
        }
        // BAD and STATE before FULL, as by drop().
        DropsDance x = new DropsDance();
        for (int i = 0; i < 12; i++) {
            x.drop(i, 5, 1);
        }
        Stays.sheetOf(x, 0, 0, 50, 61, 1, 11, 5, 1, 50, 5, 1, 51);
        isRead("BAD", x, new int[] {0, 0, 0, 1}, -20, 0);
        isRead("STATE", x, new int[] {0, 0, 3, 1}, -20, 0);
        isRead("FULL", x, new int[] {0, 0, 6, 1}, -3, 0);
        isRead("not whole", x, new int[] {0, 0, 9, 1}, 0, 2);
        isRead("FULL before INDEX", x, new int[] {0, 0, 6, 2}, -3, 2);
        isRead("none of none", x, new int[] {0, 0, 6, 0}, 0, 0);
    }

    /** The first met: in the order of the DROPS. */
    private static void readFirstMet() {
        DropsDance x = new DropsDance();
        for (int i = 0; i < 11; i++) {
            x.drop(i, 5, 1);
        }
        Stays.sheetOf(x, 0, 1, 50, 5, 1, 51, 61, 1);
        isRead("BAD behind the 12th", x, new int[] {0, 1, 0, 2}, -21, 0);
        x.lay(0, 4, 60);
        isRead("FULL behind the 12th", x, new int[] {0, 1, 0, 2}, -3, 0);
        x.lay(0, 1, 0);
        isRead("BAD ahead of FULL", x, new int[] {0, 1, 0, 2}, -20, 0);
        CHECK.due("eleven still", x.count(0), 11);
        x.lay(0, 1, 1);
        isRead("the 12th", x, new int[] {0, 1, 0, 1}, 1, 0);
        // What the machine refuses comes first if it is met first: DROP 1 is not whole, so it is never looked at.
        DropsDance y = new DropsDance();
        Stays.sheetOf(y, 0, 1, 50, 5, 1, 96, 61);
        isRead("not whole", y, new int[] {0, 1, 0, 2}, 1, 2);
        CHECK.due("it came", y.count(0), 1);
    }

    /** Promise 36: of the latest read() that came to an end; 0. */
    private static void tornOfTheLatest() {
        DropsDance x = new DropsDance();
        CHECK.due("at first", x.torn(), 0);
        Stays.sheetOf(x, 0, 1, 50, 5, 1, 50, 5, 1, 51);
        x.sheet(1, 2, 0);
        int[][] reads = {{2, 1, 0, 1}, {0, 1, -1, 1}, {0, 0, 0, 1}, {1, 2, 0, 1}, {0, 1, 6, 1}};
        int[] faults = {1, 2, 3, 2, 2};
        for (int i = 0; i < reads.length; i++) {
            isRead("fault " + faults[i], x, reads[i], 0, faults[i]);
            // Refused ones did not come to an end.
            isRead("BAD leaves it", x, new int[] {4, 1, 0, 1}, -1, faults[i]);
            isRead("BAD leaves it", x, new int[] {0, 3, 0, 0}, -1, faults[i]);
            isRead("BAD leaves it", x, new int[] {0, 1, 0, 13}, -1, faults[i]);
            isRead("-21 leaves it", x, new int[] {0, 1, 0, 2}, -21, faults[i]);
            x.sheet(3, 0, -1);
            x.lay(2, 0, 0);
            x.lay(0, 99, 0);
            CHECK.due("faults of other calls leave it", x.torn(), faults[i]);
            isRead("none of none", x, new int[] {reads[i][0], reads[i][1], reads[i][2], 0}, 0, 0);
        }
        isRead("torn behind a whole one", x, new int[] {0, 0, 0, 1}, 0, 3);
        isRead("whole", x, new int[] {0, 1, 0, 1}, 1, 0);
        isRead("one is there", x, new int[] {0, 1, 0, 1}, -20, 0);
        busy().due("torn()", y -> y.torn(), 3);
    }

    /** Promise 37: what 0 to 6. BAD. */
    private static void countBounds() {
        Stays s = busy();
        int[] due = {7, 3, 3, 2, 3, 13, 9};
        for (int what : new int[] {LOW, -2, -1, 0, 1, 2, 3, 4, 5, 6, 7, 8, HIGH}) {
            s.due("count(" + what + ")", x -> x.count(what), what < 0 || what > 6 ? -1 : due[what]);
        }
    }

    private static void countEdges() {
        DropsDance x = new DropsDance();
        for (int i = 0; i < 12; i++) {
            x.drop(i, 1 + i % 2, 1);
        }
        CHECK.due("DROPS", x.count(0), 12);
        CHECK.due("there", x.count(1), 12);
        x.go(1);
        CHECK.due("DROPS", x.count(0), 12);
        CHECK.due("half of them", x.count(1), 6);
        x.go(1);
        CHECK.due("none", x.count(1), 0);
        DropsDance holes = new DropsDance();
        for (int c = 0; c < 96; c++) {
            CHECK.due("holes", holes.count(4), c);
            holes.put(c, 6);
        }
        CHECK.due("all holes", holes.count(4), 96);
        holes.put(95, 5);
        CHECK.due("one less", holes.count(4), 95);
        DropsDance sheets = new DropsDance();
        for (int k = 3; k > 0; k--) {
            sheets.sheet(k, 0, 5);
            CHECK.due("SHEET 0 is nothing", sheets.count(6), -4);
        }
        for (int n : new int[] {0, 1, 39, 40}) {
            sheets.sheet(0, 2, n);
            CHECK.due("CELLS", sheets.count(6), n);
        }
        DropsDance images = new DropsDance();
        CHECK.due("no IMAGES", images.count(3), 0);
        images.keep(1);
        CHECK.due("one", images.count(3), 1);
        images.keep(1);
        CHECK.due("the same", images.count(3), 1);
        images.keep(0);
        CHECK.due("two", images.count(3), 2);
        images.back(0);
        CHECK.due("two still", images.count(3), 2);
        images.text();
        CHECK.due("gone by a text", images.count(3), 0);
        Check.feed(images, "!");
        images.keep(0);
        images.text();
        CHECK.due("not by a refused one", images.count(3), 1);
    }
}

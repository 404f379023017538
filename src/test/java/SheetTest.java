/** Promises 33 to 37: sheet, lay, read, torn, count. */
public final class SheetTest {
    private static final Check CHECK = new Check();

    public static void main(String[] args) {
        sheet();
        lay();
        lanes();
        readWhole();
        readTorn();
        readOfNone();
        readRefused();
        count();
        CHECK.end("SheetTest");
    }

    private static void lay(DropsDance x, int k, int... values) {
        for (int i = 0; i < values.length; i++) {
            CHECK.due("lay(" + k + ", " + i + ", " + values[i] + ")", x.lay(k, i, values[i]), 1);
        }
    }

    private static void isRead(DropsDance x, int[] call, int came, int torn) {
        String name = "read(" + call[0] + ", " + call[1] + ", " + call[2] + ", " + call[3] + ")";
        CHECK.due(name, x.read(call[0], call[1], call[2], call[3]), came);
        CHECK.due("torn behind " + name, x.torn(), torn);
    }

    private static void sheet() {
        DropsDance x = new DropsDance();
        int[][] bad = {{-1, 0, 0}, {4, 0, 0}, {0, -1, 0}, {0, 3, 0}, {0, 0, 41}, {4, 0, -1}, {0, 3, -1}, {0, 0, Integer.MAX_VALUE}};
        for (int[] b : bad) {
            CHECK.due("sheet bad", x.sheet(b[0], b[1], b[2]), -1);
        }
        CHECK.due("below 0", x.sheet(0, 0, -1), -14);
        CHECK.due("far below 0", x.sheet(3, 2, Integer.MIN_VALUE), -14);
        CHECK.due("nothing still", x.count(6), -4);
        CHECK.due("sheet of none", x.sheet(0, 0, 0), 1);
        CHECK.due("cells", x.count(6), 0);
        CHECK.due("sheet of 40", x.sheet(0, 2, 40), 1);
        CHECK.due("cells", x.count(6), 40);
        CHECK.due("refused", x.sheet(0, 2, -5), -14);
        CHECK.due("it stays", x.count(6), 40);
        lay(x, 0, 5, 6, 1);
        CHECK.due("new again", x.sheet(0, 2, 3), 1);
        isRead(x, new int[] {0, 2, 0, 1}, -20, 0);
        CHECK.due("a torn read", x.read(0, 1, 0, 1), 0);
        CHECK.due("torn stays behind sheet", x.sheet(0, 0, -1), -14);
        CHECK.due("torn", x.torn(), 3);
    }

    private static void lay() {
        DropsDance x = new DropsDance();
        CHECK.due("lay(-1)", x.lay(-1, 0, 0), -1);
        CHECK.due("lay(4)", x.lay(4, 0, 0), -1);
        CHECK.due("null", x.lay(0, 0, 0), -11);
        CHECK.due("null before index", x.lay(0, -1, 0), -11);
        x.sheet(0, 0, 2);
        CHECK.due("index", x.lay(0, 2, 0), -12);
        CHECK.due("index", x.lay(0, -1, 0), -12);
        CHECK.due("index", x.lay(0, Integer.MIN_VALUE, 0), -12);
        CHECK.due("lay", x.lay(0, 0, 0), 1);
        CHECK.due("lay", x.lay(0, 1, 0), 1);
        x.sheet(1, 0, 0);
        CHECK.due("no cells", x.lay(1, 0, 0), -12);
        CHECK.due("no fault of a read", x.torn(), 0);
    }

    private static void lanes() {
        int[][] values = {{256 + 7, 512 + 9, 1024 + 3}, {65536 + 7, 65536 + 9, -65536 + 3}, {7, 9, 3}};
        for (int lane = 0; lane < 3; lane++) {
            DropsDance x = new DropsDance();
            x.sheet(lane, lane, 3);
            lay(x, lane, values[lane]);
            isRead(x, new int[] {lane, lane, 0, 1}, 1, 0);
            CHECK.due("cell", x.of(0, 0), 7);
            CHECK.due("size", x.of(0, 1), 9);
            CHECK.due("way", x.of(0, 2), 3);
        }
        int[][] beyond = {{128 + 7, 9, 3}, {32768 + 7, 9, 3}, {256 + 7, 9, 3}, {65536 + 7, 9, 3}};
        int[] lane = {0, 1, 1, 2};
        for (int i = 0; i < 4; i++) {
            DropsDance x = new DropsDance();
            x.sheet(0, lane[i], 3);
            lay(x, 0, beyond[i]);
            isRead(x, new int[] {0, lane[i], 0, 1}, -20, 0);
        }
    }

    private static void readWhole() {
        DropsDance x = new DropsDance();
        x.sheet(2, 2, 40);
        int[] row = new int[40];
        for (int i = 0; i < 12; i++) {
            row[4 + 3 * i] = 20 + i;
            row[5 + 3 * i] = 30 + i;
            row[6 + 3 * i] = i % 4;
        }
        lay(x, 2, row);
        isRead(x, new int[] {2, 2, 4, 0}, 0, 0);
        isRead(x, new int[] {2, 2, 4, 5}, 5, 0);
        isRead(x, new int[] {2, 2, 19, 7}, 7, 0);
        for (int i = 0; i < 12; i++) {
            CHECK.due("cell", x.of(i, 0), 20 + i);
            CHECK.due("size", x.of(i, 1), 30 + i);
            CHECK.due("way", x.of(i, 2), i % 4);
        }
        CHECK.due("set down", x.now(7), 12 * 30 + 66);
    }

    private static void readTorn() {
        DropsDance x = new DropsDance();
        isRead(x, new int[] {0, 0, 0, 1}, 0, 1);
        isRead(x, new int[] {0, 2, -5, 12}, 0, 1);
        isRead(x, new int[] {0, 2, 0, 0}, 0, 0);
        x.sheet(0, 1, 8);
        lay(x, 0, 10, 5, 1, 11, 6, 2, 12, 7);
        isRead(x, new int[] {0, 0, 0, 1}, 0, 3);
        isRead(x, new int[] {0, 2, 99, 1}, 0, 3);
        isRead(x, new int[] {0, 1, 0, 0}, 0, 0);
        isRead(x, new int[] {0, 1, -1, 1}, 0, 2);
        isRead(x, new int[] {0, 1, -3, 2}, 0, 2);
        isRead(x, new int[] {0, 1, 8, 1}, 0, 2);
        isRead(x, new int[] {0, 1, 6, 1}, 0, 2);
        isRead(x, new int[] {0, 1, Integer.MAX_VALUE, 12}, 0, 2);
        isRead(x, new int[] {0, 1, Integer.MIN_VALUE, 12}, 0, 2);
        isRead(x, new int[] {0, 1, 99, 0}, 0, 0);
        CHECK.due("none so far", x.count(0), 0);
        isRead(x, new int[] {0, 1, 0, 3}, 2, 2);
        CHECK.due("two came", x.count(0), 2);
        CHECK.due("the second", x.of(1, 1), 6);
        isRead(x, new int[] {0, 1, 0, 3}, -20, 2);
        CHECK.due("refused leaves it", x.read(4, 0, 0, 0), -1);
        CHECK.due("torn", x.torn(), 2);
        DropsDance y = new DropsDance();
        y.sheet(0, 1, 3);
        lay(y, 0, 40, 5, 1);
        isRead(y, new int[] {0, 1, 0, 1}, 1, 0);
    }

    /** With n 0 no CELL is read: the machine can refuse nothing, whatever the SHEET, the lane and f are. */
    private static void readOfNone() {
        int[] places = {Integer.MIN_VALUE, -1, 0, 3, 40, Integer.MAX_VALUE};
        for (int made = -1; made < 3; made++) {
            for (int cells = 0; cells <= 40; cells += 20) {
                DropsDance x = new DropsDance();
                if (made >= 0) {
                    x.sheet(1, made, cells);
                }
                for (int lane = 0; lane < 3; lane++) {
                    for (int f : places) {
                        isRead(x, new int[] {2, 0, 0, 1}, 0, 1);
                        isRead(x, new int[] {1, lane, f, 0}, 0, 0);
                    }
                }
                CHECK.due("none came", x.count(0), 0);
            }
        }
    }

    private static void readRefused() {
        DropsDance x = new DropsDance();
        int[][] bad = {{-1, 0, 0, 0}, {4, 0, 0, 0}, {0, -1, 0, 0}, {0, 3, 0, 0}, {0, 0, 0, -1}, {0, 0, 0, 13}};
        for (int[] b : bad) {
            CHECK.due("read bad", x.read(b[0], b[1], b[2], b[3]), -1);
        }
        x.put(12, 5);
        x.drop(50, 20, 1);
        x.sheet(0, 2, 12);
        lay(x, 0, 10, 5, 1, 11, 6, 2, 12, 7, 3, 13, 8, 4);
        isRead(x, new int[] {0, 2, 0, 3}, -22, 0);
        CHECK.due("none came", x.count(0), 1);
        CHECK.due("nothing set down", x.now(7), 20);
        CHECK.due("not there", x.at(10), -4);
        lay(x, 0, 10, 5, 1, 11, 6, 2, 12, 0, 3);
        isRead(x, new int[] {0, 2, 0, 3}, -22, 0);
        isRead(x, new int[] {0, 2, 9, 1}, -20, 0);
        lay(x, 0, 10, 5, 1, 10);
        isRead(x, new int[] {0, 2, 0, 2}, -21, 0);
        CHECK.due("the next has its number", x.drop(10, 5, 1), 1);
        DropsDance full = new DropsDance();
        for (int i = 0; i < 11; i++) {
            full.drop(i, 1, 1);
        }
        full.sheet(0, 0, 7);
        lay(full, 0, 20, 5, 1, 21, 5, 1, 22);
        isRead(full, new int[] {0, 0, 0, 2}, -3, 0);
        CHECK.due("none came", full.count(0), 11);
        isRead(full, new int[] {0, 0, 0, 3}, -3, 0);
        lay(full, 0, 20, 5, 1, 20);
        isRead(full, new int[] {0, 0, 0, 2}, -21, 0);
        isRead(full, new int[] {0, 0, 3, 2}, 1, 2);
        CHECK.due("it came", full.count(0), 12);
        isRead(full, new int[] {0, 0, 1, 2}, -20, 2);
    }

    private static void count() {
        DropsDance x = Check.told("row oppppppppppo;");
        x.drop(5, 1, 0);
        x.drop(6, 9, 0);
        x.go(1);
        x.saw(1, 1, true, 1);
        x.keep(1);
        x.feed(0);
        x.end(3);
        x.sheet(0, 0, 17);
        x.put(50, 6);
        int[] due = {2, 1, 1, 1, 3, 3, 17};
        for (int what = 0; what < 7; what++) {
            CHECK.due("count(" + what + ")", x.count(what), due[what]);
        }
        CHECK.due("count(7)", x.count(7), -1);
        CHECK.due("count(-1)", x.count(-1), -1);
        CHECK.due("count", x.count(Integer.MIN_VALUE), -1);
    }
}

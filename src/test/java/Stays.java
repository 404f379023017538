/** Holds that a call changes nothing: all that can be asked answers the same behind it as without it. */
final class Stays {
    interface Before {
        void on(DropsDance x);
    }

    interface Call {
        long on(DropsDance x);
    }

    /** Some questions change the object, and one object has 512 calls: each part is asked of a new one. */
    private static final int PARTS = 10, FIRST_SHEET = 6;

    private final Check check;
    private final String name;
    private final Before before;
    private final long[][] without = new long[PARTS][];

    Stays(Check check, String name, Before before) {
        this.check = check;
        this.name = name;
        this.before = before;
        for (int part = 0; part < PARTS; part++) {
            without[part] = ask(part, made());
        }
    }

    /** It answers so, and all stays. */
    void due(String call, Call c, long want) {
        check.due(name + ": " + call, c.on(made()), want);
        check.due(name + ": part that changed by " + call, changedPart(c), -1);
    }

    /** It answers so, and something changes: Stays itself can see it. */
    void changes(String call, Call c, long want) {
        check.due(name + ": " + call, c.on(made()), want);
        check.holds(name + ": " + call + " changes something", changedPart(c) >= 0);
    }

    private DropsDance made() {
        DropsDance x = new DropsDance();
        before.on(x);
        return x;
    }

    private int changedPart(Call c) {
        for (int part = 0; part < PARTS; part++) {
            DropsDance x = made();
            c.on(x);
            if (!java.util.Arrays.equals(ask(part, x), without[part])) {
                return part;
            }
        }
        return -1;
    }

    private static long[] ask(int part, DropsDance x) {
        Answers a = new Answers();
        switch (part) {
            case 0: askSums(x, a); break;
            case 1: askCells(x, a); break;
            case 2: case 3: askImage(x, part - 2, a); break;
            case 4: askTape(x, a); break;
            case 5: askLater(x, a); break;
            default: askSheet(x, part - FIRST_SHEET, a); break;
        }
        return a.all();
    }

    private static void askSums(DropsDance x, Answers a) {
        a.add(x.fault(), x.torn(), x.right(), x.fits(0), x.fits(1), x.fits(2));
        for (int what = 0; what < 9; what++) {
            a.add(x.rule(what), x.now(what), x.count(what));
        }
        askDrops(x, a);
        a.add(x.seed(0));
    }

    private static void askDrops(DropsDance x, Answers a) {
        for (int d = 0; d < 12; d++) {
            for (int what = 0; what < 6; what++) {
                a.add(x.of(d, what));
            }
        }
    }

    private static void askCells(DropsDance x, Answers a) {
        for (int c = 0; c < 96; c++) {
            a.add(x.cell(c), x.at(c));
        }
    }

    private static void askImage(DropsDance x, int i, Answers a) {
        a.add(x.back(i), x.seed(0));
        for (int what = 0; what < 8; what++) {
            a.add(x.now(what));
        }
        askDrops(x, a);
        for (int c = 0; c < 96; c++) {
            a.add(x.cell(c));
        }
    }

    private static void askTape(DropsDance x, Answers a) {
        a.add(x.text(), x.fault());
        for (int what = 0; what < 9; what++) {
            a.add(x.rule(what));
        }
        for (int c = 0; c < 96; c++) {
            a.add(x.cell(c));
        }
    }

    private static void askLater(DropsDance x, Answers a) {
        for (int i = 0; i < 3; i++) {
            a.add(x.go(1 + 2 * i));
            askDrops(x, a);
        }
        a.add(x.seed(0), x.now(3), x.now(4), x.now(5), x.now(6));
    }

    private static void askSheet(DropsDance x, int k, Answers a) {
        for (int lane = 0; lane < 3; lane++) {
            x.end(0);
            x.text();
            a.add(x.read(k, lane, 0, 12), x.torn());
            for (int d = 0; d < 12; d++) {
                a.add(x.of(d, 0), x.of(d, 1), x.of(d, 2));
            }
        }
        for (int i = 0; i < 41; i++) {
            a.add(x.lay(k, i, 0));
        }
    }

    /** Something of everything: RULES, CELLS, DROPS GONE in each way, IMAGES, told LIVES, SHEETS, a text on THE TAPE, FAULTS. */
    static void busy(DropsDance x) {
        Check.tell(x, "teeth 5 30;leap 2;film 2;roll 9;row eppppoppppxc;row npppppppppoo;");
        Check.tell(x, "up 0;");
        x.seed(5);
        x.heat(70);
        x.saw(10, 70, true, 19);
        x.saw(10, 10, true, 19);
        x.saw(30, 45, false, 5);
        sheetOf(x, 0, 0, 60, 9, 1, 61, 8, 2, 62, 7, 3);
        sheetOf(x, 1, 1, 70, 9, 1, 71, 8, 2);
        sheetOf(x, 2, 2, 80, 9, 1, 81, 8, 2, 82, 7, 3, 83, 6, 0);
        x.keep(0);
        x.drop(4, 20, 1);
        x.drop(30, 21, 1);
        x.drop(31, 22, 2);
        x.drop(40, 3, 1);
        x.drop(11, 6, 0);
        x.go(1);
        x.keep(1);
        x.drop(90, 33, 0);
        x.drop(50, 8, 3);
        x.go(1);
        x.read(1, 0, 0, 1);
        x.seed(7);
        Check.feed(x, "up 77;row ncp");
    }

    static void sheetOf(DropsDance x, int k, int lane, int... values) {
        x.sheet(k, lane, values.length);
        for (int i = 0; i < values.length; i++) {
            x.lay(k, i, values[i]);
        }
    }

    /** As many answers as there are questions. */
    private static final class Answers {
        private long[] row = new long[64];
        private int many = 0;

        void add(long... answers) {
            for (long answer : answers) {
                if (many == row.length) {
                    row = java.util.Arrays.copyOf(row, 2 * many);
                }
                row[many] = answer;
                many++;
            }
        }

        long[] all() {
            return java.util.Arrays.copyOf(row, many);
        }
    }
}

/** The edges of promises 1 to 8 and of the text's terms: each case with its neighbours, and what a refused call leaves. */
public final class EdgeTextTest {
    private static final Check CHECK = new Check();
    private static final int LOW = Integer.MIN_VALUE, HIGH = Integer.MAX_VALUE;
    private static final String ROW = "row pppppppppppp;";

    public static void main(String[] args) {
        staysItselfSees();
        newObject();
        feedTillFull();
        feedHighestFirst();
        end();
        textEmptiesTape();
        bytesOfTokens();
        numbersOfFigures();
        boundsOfRules();
        boundsOfTwo();
        namesOfRows();
        manyRows();
        twice();
        firstFaultMet();
        placesAtTheEnd();
        refusedTextLeavesAll();
        takenTextTellsAll();
        fault();
        ruleAndCell();
        put();
        CHECK.end("EdgeTextTest");
    }

    private static Stays busy() {
        return new Stays(CHECK, "busy", Stays::busy);
    }

    /** The tests of what stays are worth something only if they see each change. */
    private static void staysItselfSees() {
        Stays s = busy();
        s.changes("feed", x -> x.feed(0), 21);
        s.changes("end", x -> x.end(12), 13);
        s.changes("text", x -> x.text(), -10 - 10);
        s.changes("put", x -> x.put(95, 3), 4);
        s.changes("heat", x -> x.heat(71), 1);
        s.changes("drop", x -> x.drop(95, 1, 0), 7);
        s.changes("go", x -> x.go(1), 3);
        s.changes("seed", x -> x.seed(8), 7);
        s.changes("keep(0)", x -> x.keep(0), 1);
        s.changes("keep(1)", x -> x.keep(1), 1);
        s.changes("back(0)", x -> x.back(0), 0);
        s.changes("back(1)", x -> x.back(1), 1);
        s.changes("saw", x -> x.saw(1, 1, true, 1), 4);
        s.changes("forget", x -> x.forget(), 3);
        for (int k = 0; k < 4; k++) {
            int sheet = k;
            s.changes("sheet " + k, x -> x.sheet(sheet, 0, 8), 1);
            s.changes("lay " + k, x -> x.sheet(sheet, 2, 1) + x.lay(sheet, 0, 0), 2);
        }
        s.changes("lay", x -> x.lay(1, 3, 73), 1);
        s.changes("lay", x -> x.lay(2, 3, 82), 1);
        s.changes("read", x -> x.read(0, 0, 0, 1), 1);
        s.changes("read of none", x -> x.read(0, 0, 0, 0), 0);
    }

    /** Promise 1: as told at first; no DROPS; SHEETS of nothing. */
    private static void newObject() {
        Stays anew = new Stays(CHECK, "new", x -> { });
        anew.due("text() of nothing tells what there is", x -> x.text(), 0);
        anew.due("forget() of none", x -> x.forget(), 0);
        anew.due("end(0) of none", x -> x.end(0), 0);
        anew.due("seed(0)", x -> x.seed(0), 0);
        anew.due("heat(0)", x -> x.heat(0), 0);
        anew.due("put(0, 4)", x -> x.put(0, 4), 4);
        anew.due("of(0, 0)", x -> x.of(0, 0), -1);
        anew.due("points(0)", x -> x.points(0), -1);
        anew.due("back(0)", x -> x.back(0), -2);
        anew.due("back(1)", x -> x.back(1), -2);
        anew.due("count(6)", x -> x.count(6), -4);
        for (int k = 0; k < 4; k++) {
            int sheet = k;
            anew.due("lay(" + k + ", 0, 0)", x -> x.lay(sheet, 0, 0), -11);
        }
        anew.due("up is 60: heat(59) does not float", x -> x.heat(59) + x.heat(0), 0);
        CHECK.due("heat(60) does", new DropsDance().heat(60), 1);
    }

    private static DropsDance withTape(int bytes) {
        DropsDance x = new DropsDance();
        for (int i = 0; i < bytes; i += 8) {
            x.feed(0x2020202020202020L);
        }
        x.end(bytes);
        return x;
    }

    /** Promise 2: how many it has. FULL: more than 320. */
    private static void feedTillFull() {
        for (int bytes = 0; bytes <= 320; bytes++) {
            DropsDance x = withTape(bytes);
            boolean full = bytes + 8 > 320;
            CHECK.due("feed behind " + bytes, x.feed(0x2020202020202020L), full ? -3 : bytes + 8);
            CHECK.due("bytes then", x.count(5), full ? bytes : bytes + 8);
        }
        for (int kept = 313; kept <= 320; kept++) {
            int bytes = kept;
            Stays s = new Stays(CHECK, kept + " bytes", x -> {
                Check.feed(x, " ".repeat(313) + "up 9;;;");
                x.end(bytes);
            });
            s.due("feed", x -> x.feed(0x757020393b202020L), -3);
            s.due("feed(-1)", x -> x.feed(-1), -3);
        }
    }

    /** Promise 2: eight bytes, the highest first. */
    private static void feedHighestFirst() {
        for (int place = 0; place < 8; place++) {
            DropsDance x = new DropsDance();
            long blanks = 0x2020202020202020L;
            int shift = 56 - 8 * place;
            CHECK.due("feed", x.feed(blanks & ~(255L << shift) | 9L << shift), 8);
            CHECK.due("no TOKEN at " + place, x.text(), -10 - place);
        }
        DropsDance x = new DropsDance();
        x.feed(0x757020383b2066L << 8 | 0x69);
        x.feed(0x6c6d20323b646f77L);
        x.feed(0x6e2035203b202020L);
        CHECK.due("three feeds, one behind another", x.text(), 3);
        CHECK.due("up", x.rule(0), 8);
        CHECK.due("film", x.rule(7), 2);
        CHECK.due("down", x.rule(1), 5);
        for (long v : new long[] {Long.MIN_VALUE, Long.MAX_VALUE, -1, 0, 1}) {
            DropsDance y = new DropsDance();
            CHECK.due("feed(" + v + ")", y.feed(v), 8);
            CHECK.due("no TOKEN", y.text(), -10);
            CHECK.due("fault", y.fault(), 1);
        }
    }

    /** Promise 3: how many it had. BAD. */
    private static void end() {
        for (int bytes : new int[] {0, 1, 8, 319, 320}) {
            for (int n : new int[] {LOW, -1, 0, 1, bytes - 1, bytes, bytes + 1, 321, HIGH}) {
                DropsDance x = withTape(bytes);
                boolean bad = n < 0 || n > bytes;
                CHECK.due("end(" + n + ") of " + bytes, x.end(n), bad ? -1 : bytes);
                CHECK.due("bytes then", x.count(5), bad ? bytes : n);
            }
        }
        Stays s = busy();
        s.due("end(13)", x -> x.end(13), 13);
        for (int n : new int[] {LOW, -1, 14, HIGH}) {
            s.due("end(" + n + ")", x -> x.end(n), -1);
        }
        // What is cut is gone, also when the same places are filled again.
        DropsDance x = new DropsDance();
        Check.feed(x, "up 98;up");
        x.end(4);
        Check.feed(x, "1;");
        CHECK.due("up 91;", x.text(), 1);
        CHECK.due("up", x.rule(0), 91);
    }

    /** Promise 4: THE TAPE is empty then, whether it is taken or not. */
    private static void textEmptiesTape() {
        for (String text : new String[] {"", " ", ";", "up 70;", "up", "down 61;", " ".repeat(320), "!".repeat(320)}) {
            DropsDance x = new DropsDance();
            Check.feed(x, text);
            CHECK.due("bytes of " + text, x.count(5), text.length());
            x.text();
            CHECK.due("none then", x.count(5), 0);
            CHECK.due("text() of none", x.text(), 0);
            CHECK.due("fault() of none", x.fault(), 0);
        }
    }

    private static void told(String text, int lines) {
        DropsDance x = new DropsDance();
        CHECK.due("text \"" + text + "\"", Check.tell(x, text), lines);
        CHECK.due("fault of \"" + text + "\"", x.fault(), 0);
    }

    private static void refused(String text, int fault, int place) {
        DropsDance x = new DropsDance();
        CHECK.due("text \"" + text + "\"", Check.tell(x, text), -10 - place);
        CHECK.due("fault of \"" + text + "\"", x.fault(), fault);
        CHECK.due("bytes behind \"" + text + "\"", x.count(5), 0);
    }

    /** TOKENS: NAMES (a .. z), NUMBERS, one ; and blanks (32) between: every byte by itself, and within a NAME. */
    private static void bytesOfTokens() {
        for (int b = 0; b < 256; b++) {
            String sign = String.valueOf((char) b);
            boolean name = b >= 'a' && b <= 'z', number = b >= '0' && b <= '9';
            if (b == ' ') {
                told(sign, 0);
                told("up" + sign + "70;", 1);
            } else {
                refused(sign, name || number || b == ';' ? 2 : 1, 0);
                refused("up" + sign + "70;", name || b == ';' ? 2 : 1, name ? 0 : 2);
            }
            behindNumber(sign, b, name, number);
        }
        told("up70;down7;teeth1 2;film1 ;leap 0 ;", 5);
        told("  up   70   ;   down  7  ;  ", 2);
        refused("up 70;;", 2, 6);
        refused("up 70 ; ;", 2, 8);
        refused("u p 70;", 2, 0);
        refused("up 7 0;", 2, 5);
        refused("teeth 12;", 2, 8);
        told("teeth 1 2;", 1);
    }

    private static void behindNumber(String sign, int b, boolean name, boolean number) {
        String text = "down 0;up 7" + sign + ";";
        if (number || b == ' ') {
            told(text, 2);
        } else if (b == ';') {
            refused(text, 2, 12);
        } else {
            refused(text, name ? 2 : 1, 11);
        }
    }

    /** NUMBERS (1 or 2 figures); FAULT 1: one that is too long (its first byte). */
    private static void numbersOfFigures() {
        told("leap 0;", 1);
        told("leap 00;", 1);
        refused("leap 000;", 1, 5);
        told("leap 9;", 1);
        told("leap 09;", 1);
        refused("leap 009;", 1, 5);
        refused("up 100;", 1, 3);
        told("up 99;", 1);
        refused("up 4294967356;", 1, 3);
        refused("teeth 1 002;", 1, 8);
        refused("teeth 001 2;", 1, 6);
        refused("up 70 123", 1, 6);
        refused("123", 1, 0);
        refused("12", 2, 0);
        refused("row 123;", 1, 4);
        refused("row 12;", 2, 4);
    }

    private static final String[] NAMES = {"up", "down", "teeth", "", "leap", "chimney", "hiss", "film", "roll"};

    /** A text of one rule, the others being such that up and down do not matter. */
    private static String textOf(int rule, int v) {
        switch (rule) {
            case 0: return "down 0;up " + v + ";";
            case 1: return "up 99;down " + v + ";";
            case 2: return "teeth " + v + " 60;";
            case 3: return "teeth 1 " + v + ";";
            default: return NAMES[rule] + " " + v + ";";
        }
    }

    /** RULES: each one's bounds; FAULT 3: a NUMBER out of its bounds (its first byte). */
    private static void boundsOfRules() {
        int[] least = {1, 0, 1, 1, 0, 1, 1, 1, 0}, most = {99, 99, 60, 60, 9, 99, 50, 9, 60};
        for (int rule = 0; rule < 9; rule++) {
            for (int v = 0; v <= 99; v++) {
                String text = textOf(rule, v);
                if (v < least[rule] || v > most[rule]) {
                    refused(text, 3, text.lastIndexOf(' ') - (rule == 2 ? String.valueOf(v).length() : -1));
                } else {
                    DropsDance x = new DropsDance();
                    CHECK.due(text, Check.tell(x, text), rule < 2 ? 2 : 1);
                    CHECK.due("rule(" + rule + ") of " + text, x.rule(rule), v);
                }
            }
            String above = textOf(rule, 100);
            refused(above, 1, above.indexOf("100"));
        }
        int[] first = {60, 40, 1, 60, 0, 40, 10, 3, 0};
        for (int rule = 0; rule < 9; rule++) {
            DropsDance x = Check.told(textOf(rule, 9));
            for (int other = 2; other < 9; other++) {
                CHECK.due("rule(" + other + ") beside " + textOf(rule, 9), x.rule(other), other == rule ? 9 : first[other]);
            }
        }
    }

    /** teeth: to no less than from; down: 0 to up, looked at beside up behind all (FAULT 6: the length). */
    private static void boundsOfTwo() {
        for (int from : new int[] {1, 2, 10, 59, 60}) {
            for (int to = Math.max(0, from - 1); to <= from + 1; to++) {
                String text = "teeth " + from + " " + to + ";";
                if (to < from || to > 60) {
                    refused(text, 3, text.lastIndexOf(' ') + 1);
                } else {
                    DropsDance x = Check.told(text);
                    CHECK.due(text + " from", x.rule(2), from);
                    CHECK.due(text + " to", x.rule(3), to);
                }
            }
        }
        for (int up : new int[] {1, 2, 50, 98, 99}) {
            for (int down = up - 1; down <= Math.min(99, up + 1); down++) {
                for (String text : new String[] {"up " + up + ";down " + down + ";", "down " + down + ";up " + up + ";  "}) {
                    if (down > up) {
                        refused(text, 6, text.length());
                    } else {
                        DropsDance x = Check.told(text);
                        CHECK.due(text + " up", x.rule(0), up);
                        CHECK.due(text + " down", x.rule(1), down);
                    }
                }
            }
        }
        // What is not told counts as at first.
        told("up 41;", 1);
        told("up 40;", 1);
        refused("up 39;", 6, 6);
        told("down 59;", 1);
        told("down 60;", 1);
        refused("down 61;", 6, 8);
        // Not as it was told by an earlier text.
        DropsDance x = Check.told("up 20;down 10;");
        CHECK.due("down 30 beside up 60", Check.tell(x, "down 30;"), 1);
        CHECK.due("up 20 beside down 40", Check.tell(x, "up 20;"), -10 - 6);
        CHECK.due("up stays", x.rule(0), 60);
        CHECK.due("down stays", x.rule(1), 30);
    }

    /** row: S is a NAME of just 12 of these letters; FAULT 3: a NAME that is no S. */
    private static void namesOfRows() {
        for (int letters = 1; letters <= 14; letters++) {
            String text = "row " + "e".repeat(letters) + ";";
            if (letters == 12) {
                told(text, 1);
            } else {
                refused(text, 3, 4);
            }
        }
        for (char letter = 'a'; letter <= 'z'; letter++) {
            int kind = "neswpxoc".indexOf(letter);
            for (int column : new int[] {0, 1, 10, 11}) {
                StringBuilder s = new StringBuilder("pppppppppppp");
                s.setCharAt(column, letter);
                String text = "row " + s + ";";
                if (kind < 0) {
                    refused(text, 3, 4);
                } else {
                    DropsDance x = Check.told(text);
                    for (int c = 0; c < 13; c++) {
                        CHECK.due("cell(" + c + ") of " + text, x.cell(c), c == column ? kind : 4);
                    }
                }
            }
        }
        refused("row ;", 2, 4);
        refused("row", 2, 3);
        refused("row pppppp pppppp;", 3, 4);
        refused("row pppppppppppp pppppppppppp;", 2, 17);
        refused("row ppppppppppp1;", 3, 4);
        refused("row pppppppppppp1;", 2, 16);
        refused("row 1ppppppppppp;", 2, 4);
        refused("row row;", 3, 4);
    }

    /** 8 rows at most; those that are not told are plain; FAULT 5: the 9th row (its NAME). */
    private static void manyRows() {
        for (int rows = 0; rows <= 8; rows++) {
            DropsDance x = new DropsDance();
            CHECK.due(rows + " rows", Check.tell(x, "row eeeeeeeeeees;".repeat(rows)), rows);
            for (int row = 0; row < 8; row++) {
                CHECK.due("first of row " + row, x.cell(12 * row), row < rows ? 1 : 4);
                CHECK.due("last of row " + row, x.cell(12 * row + 11), row < rows ? 2 : 4);
            }
        }
        String eight = ROW.repeat(8);
        refused(eight + ROW, 5, 136);
        refused(eight + "  " + ROW, 5, 138);
        refused(eight + "row", 5, 136);
        refused(eight + "row 123", 5, 136);
        refused(eight + "row!", 5, 136);
        refused(eight + "rows", 2, 136);
        refused(eight + "up 0;" + ROW, 3, 139);
        told(eight + "up 70;", 9);
        refused(eight + "up 70;" + ROW, 5, 142);
        // Rows and rules among each other.
        told("up 70;" + ROW + "down 7;" + ROW + "film 1;", 5);
    }

    /** FAULT 4: a rule for the second time (its NAME). */
    private static void twice() {
        String[] lines = {"up 70;", "down 7;", "teeth 1 2;", "leap 1;", "chimney 9;", "hiss 9;", "film 9;", "roll 9;"};
        for (String line : lines) {
            String name = line.substring(0, line.indexOf(' '));
            told(line, 1);
            refused(line + line, 4, line.length());
            refused(line + " " + name, 4, line.length() + 1);
            refused(line + name + " 00;", 4, line.length());
            refused(line + ROW + name + "!", 4, line.length() + ROW.length());
            for (String other : lines) {
                if (!other.equals(line)) {
                    told(line + other, 2);
                    refused(line + other + line, 4, line.length() + other.length());
                }
            }
        }
        told(String.join("", lines), 8);
        told(ROW + ROW, 2);
        // In another text it is the first time.
        DropsDance x = Check.told("up 70;");
        CHECK.due("up in the next text", Check.tell(x, "up 71;"), 1);
        CHECK.due("behind a refused one", Check.tell(x, "up 72;!") + Check.tell(x, "up 73;"), -16 + 1);
        CHECK.due("rule(0)", x.rule(0), 73);
    }

    /** The first met as it is read; a TOKEN is read when the one before has been taken. */
    private static void firstFaultMet() {
        refused("ups !", 2, 0);
        refused("up 0!", 3, 3);
        refused("up 70!", 1, 5);
        refused("up !0", 1, 3);
        refused("teeth 5 4!", 3, 8);
        refused("teeth 61 !", 3, 6);
        refused("teeth 5 !", 1, 8);
        refused("row pppppppppppa!", 3, 4);
        refused("row pppppppppppp!", 1, 16);
        refused("up 70;up !", 4, 6);
        refused("down 99;up 70;!", 1, 14);
        refused("down 99;up 70; x", 2, 15);
        refused("down 99;up 70", 2, 13);
        refused("down 99;up 70;", 6, 14);
        refused("down 99;down 99;", 4, 8);
        refused("up 70;x", 2, 6);
        refused("up 70 x", 2, 6);
        refused("up x", 2, 3);
        refused("up ;", 2, 3);
        refused("7 up;", 2, 0);
        refused("; up 70;", 2, 0);
    }

    /** FAULT 2 at the end: the length, blanks too. */
    private static void placesAtTheEnd() {
        for (String text : new String[] {"up", "up 70", "teeth", "teeth 1", "teeth 1 2", "row", "row pppppppppppp"}) {
            for (int blanks = 0; blanks < 3; blanks++) {
                refused(text + " ".repeat(blanks), 2, text.length() + blanks);
            }
        }
        refused(" ".repeat(317) + "up ", 2, 320);
        refused(" ".repeat(316) + "up ", 2, 319);
        refused(" ".repeat(318) + "up", 2, 320);
        refused(" ".repeat(319) + "!", 1, 319);
        refused(" ".repeat(319) + ";", 2, 319);
        told(" ".repeat(314) + "up 70;", 1);
        refused(" ".repeat(312) + "down 99;", 6, 320);
        refused("!" + " ".repeat(319), 1, 0);
    }

    /** Promise 4: that which was told stays; THE TAPE alone is empty. */
    private static void refusedTextLeavesAll() {
        String[] small = {"!", "x", "up 0;", "up 9;up", ROW.repeat(9), "down 61;"};
        String all = "up 98;teeth 2 3;leap 9;chimney 5;hiss 7;film 8;roll 9;row cccccccccccc;row xxxxxxxxxxxx;";
        String[] large = {all + "!", all + "x", all + "down 100;", all + "film 1;", all + ROW.repeat(7), all + "down 99;"};
        int[] faults = {1, 2, 1, 4, 5, 6}, places = {0, 0, 0, 0, 6 * ROW.length(), 8};
        small[2] = "up 100;";
        for (int i = 0; i < 6; i++) {
            String before = small[i], text = large[i];
            Stays s = new Stays(CHECK, "busy, fault " + faults[i], x -> {
                Stays.busy(x);
                x.end(0);
                Check.tell(x, before);
            });
            int place = all.length() + places[i] + (i == 2 ? 5 : 0);
            s.due("text of fault " + faults[i], x -> Check.tell(x, text), -10 - place);
        }
        Stays s = new Stays(CHECK, "busy, fault 3", x -> {
            Stays.busy(x);
            x.end(0);
        });
        s.due("text of fault 3", x -> Check.tell(x, all + "down 0;row ppp;"), -10 - all.length() - 11);
        s.due("text of fault 3", x -> Check.tell(x, "up 0;"), -13);
        s.changes("text of fault 1", x -> Check.tell(x, "!"), -10);
        s.changes("text of nothing", x -> x.text(), 0);
    }

    /** A text that is taken tells all; the seed stays, and SHEETS and their FAULT do. */
    private static void takenTextTellsAll() {
        DropsDance x = new DropsDance();
        Stays.busy(x);
        x.end(0);
        CHECK.due("text() of nothing", x.text(), 0);
        int[] first = {60, 40, 1, 60, 0, 40, 10, 3, 0};
        for (int i = 0; i < 9; i++) {
            CHECK.due("rule(" + i + ")", x.rule(i), first[i]);
        }
        for (int i = 0; i < 8; i++) {
            CHECK.due("now(" + i + ")", x.now(i), 0);
        }
        int[] counts = {0, 0, 0, 0, 0, 0, 9};
        for (int i = 0; i < 7; i++) {
            CHECK.due("count(" + i + ")", x.count(i), counts[i]);
        }
        for (int c = 0; c < 96; c++) {
            CHECK.due("cell(" + c + ")", x.cell(c), 4);
            CHECK.due("at(" + c + ")", x.at(c), -4);
        }
        CHECK.due("back(0)", x.back(0), -2);
        CHECK.due("back(1)", x.back(1), -2);
        CHECK.due("fault()", x.fault(), 0);
        CHECK.due("torn()", x.torn(), 3);
        CHECK.due("forget()", x.forget(), 0);
        CHECK.due("of(0, 0)", x.of(0, 0), -1);
        CHECK.due("the first DROP is 0 again", x.drop(0, 5, 1), 0);
        CHECK.due("seed stays", x.seed(0), 7);
        // It floated at HEAT 70; HEAT is 0 now, that does not, also where down is 0.
        DropsDance y = Check.told("up 1;down 0;");
        CHECK.due("heat(0) at first", y.heat(0), 0);
        y.heat(1);
        CHECK.due("heat(0) floats", y.heat(0), 1);
        CHECK.due("the same text", Check.tell(y, "up 1;down 0;"), 2);
        CHECK.due("floats no more", y.now(2), 0);
        CHECK.due("heat(0) behind a text", y.heat(0), 0);
    }

    /** Promise 5: of the latest text(); 0. */
    private static void fault() {
        DropsDance x = new DropsDance();
        CHECK.due("fault() at first", x.fault(), 0);
        String[] texts = {"!", "x", "up 0;", "up 9;up", ROW.repeat(9), "down 61;"};
        for (int i = 0; i < 6; i++) {
            Check.tell(x, texts[i]);
            CHECK.due("fault() of " + texts[i], x.fault(), i + 1);
            x.feed(0);
            x.end(0);
            CHECK.due("fault() still", x.fault(), i + 1);
        }
        x.text();
        CHECK.due("fault() of a text that is taken", x.fault(), 0);
        busy().due("fault()", y -> y.fault(), 3);
    }

    /** Promises 6, 7: BAD. */
    private static void ruleAndCell() {
        Stays s = busy();
        int[] rules = {60, 40, 5, 30, 2, 40, 10, 2, 9};
        for (int what : new int[] {LOW, -2, -1, 0, 1, 2, 3, 4, 5, 6, 7, 8, 9, 10, HIGH}) {
            s.due("rule(" + what + ")", x -> x.rule(what), what < 0 || what > 8 ? -1 : rules[what]);
        }
        int[][] cells = {{LOW, -1}, {-1, -1}, {0, 1}, {1, 4}, {5, 6}, {10, 5}, {11, 7}, {12, 0}, {94, 4}, {95, 4}, {96, -1}, {97, -1}, {HIGH, -1}};
        for (int[] c : cells) {
            s.due("cell(" + c[0] + ")", x -> x.cell(c[0]), c[1]);
        }
        for (int kind = 0; kind < 8; kind++) {
            DropsDance x = new DropsDance();
            x.put(95, kind);
            x.put(0, kind);
            CHECK.due("cell(95)", x.cell(95), kind);
            CHECK.due("cell(0)", x.cell(0), kind);
            CHECK.due("cell(94)", x.cell(94), 4);
            CHECK.due("cell(1)", x.cell(1), 4);
        }
    }

    /** Promise 8: what it was. BAD; STATE: a DROP is there, and v is a wall or a hole. */
    private static void put() {
        Stays s = busy();
        for (int c : new int[] {LOW, -1, 96, 97, HIGH}) {
            s.due("put(" + c + ", 5)", x -> x.put(c, 5), -1);
        }
        for (int v : new int[] {LOW, -1, 8, 9, HIGH}) {
            s.due("put(0, " + v + ")", x -> x.put(0, v), -1);
        }
        s.due("put(0, 1), as it is", x -> x.put(0, 1), 1);
        s.changes("put(0, 0)", x -> x.put(0, 0), 1);
        s.changes("put(95, 7)", x -> x.put(95, 7), 4);
        for (int c : new int[] {0, 95}) {
            DropsDance there = new DropsDance();
            there.drop(c, 5, 1);
            for (int v = -1; v <= 8; v++) {
                there.put(c, 4);
                CHECK.due("put(" + c + ", " + v + ") under a DROP", there.put(c, v), v < 0 || v > 7 ? -1 : v == 5 || v == 6 ? -2 : 4);
                CHECK.due("cell then", there.cell(c), v < 0 || v > 7 || v == 5 || v == 6 ? 4 : v);
            }
        }
        DropsDance x = Check.told("leap 2;film 9;row pppppppppppp;row ppoppppppppp;");
        x.heat(60);
        x.drop(13, 9, 1);
        x.drop(30, 3, 1);
        x.drop(50, 9, 1);
        x.drop(51, 9, 2);
        x.drop(70, 1, 2);
        x.go(1);
        int[] gone = {2, 3, 4, 0, 1};
        for (int d = 0; d < 5; d++) {
            CHECK.due("gone " + d, x.of(d, 3), gone[d]);
        }
        // Who is GONE is there no more.
        CHECK.due("where one fell", x.put(14, 5), 6);
        CHECK.due("where one leapt", x.put(30, 5), 4);
        CHECK.due("where one joined", x.put(51, 6), 4);
        CHECK.due("where one went in steam", x.put(70, 6), 4);
        CHECK.due("where one went on to", x.put(63, 6), -2);
    }
}

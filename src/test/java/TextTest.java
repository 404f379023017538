/** Promises 1 to 8: a new object, feed, end, text, fault, rule, cell, put. */
public final class TextTest {
    private static final Check CHECK = new Check();
    private static final String ROW = "row pppppppppppp;";

    public static void main(String[] args) {
        newObject();
        feedAndEnd();
        textTellsAll();
        faults();
        refusedTextChangesNothing();
        rulesAndCells();
        put();
        CHECK.end("TextTest");
    }

    private static void newObject() {
        DropsDance x = new DropsDance();
        int[] first = {60, 40, 1, 60, 0, 40, 10, 3, 0};
        for (int i = 0; i < 9; i++) {
            CHECK.due("new rule(" + i + ")", x.rule(i), first[i]);
        }
        for (int c = 0; c < 96; c++) {
            CHECK.due("new cell(" + c + ")", x.cell(c), 4);
            CHECK.due("new at(" + c + ")", x.at(c), -4);
        }
        for (int i = 0; i < 8; i++) {
            CHECK.due("new now(" + i + ")", x.now(i), 0);
        }
        int[] counts = {0, 0, 0, 0, 0, 0, -4};
        for (int i = 0; i < 7; i++) {
            CHECK.due("new count(" + i + ")", x.count(i), counts[i]);
        }
        CHECK.due("new fault()", x.fault(), 0);
        CHECK.due("new torn()", x.torn(), 0);
        CHECK.due("new seed", x.seed(1), 0);
        CHECK.due("new back(0)", x.back(0), -2);
        CHECK.due("new back(1)", x.back(1), -2);
        for (int k = 0; k < 4; k++) {
            CHECK.due("new lay(" + k + ")", x.lay(k, 0, 0), -11);
        }
        CHECK.due("new forget()", x.forget(), 0);
        CHECK.due("new right()", x.right(), 0);
    }

    private static void feedAndEnd() {
        DropsDance x = new DropsDance();
        for (int i = 1; i <= 40; i++) {
            CHECK.due("feed " + i, x.feed(0x2020202020202020L), 8 * i);
        }
        CHECK.due("feed full", x.feed(0), -3);
        CHECK.due("count(5) full", x.count(5), 320);
        CHECK.due("end(321)", x.end(321), -1);
        CHECK.due("end(-1)", x.end(-1), -1);
        CHECK.due("end(320)", x.end(320), 320);
        CHECK.due("end(313)", x.end(313), 320);
        CHECK.due("feed at 313", x.feed(0), -3);
        CHECK.due("end(312)", x.end(312), 313);
        CHECK.due("feed at 312", x.feed(0x2020202020202020L), 320);
        CHECK.due("text of blanks", x.text(), 0);
        CHECK.due("tape is empty then", x.count(5), 0);
        CHECK.due("end(1) of none", x.end(1), -1);
        CHECK.due("end(0) of none", x.end(0), 0);
        // The highest byte is the first: "up 77;" and two blanks.
        CHECK.due("feed up 77", x.feed(0x757020_37373b_2020L), 8);
        CHECK.due("text up 77", x.text(), 1);
        CHECK.due("rule(0)", x.rule(0), 77);
        // end keeps the first bytes, later ones come behind them.
        Check.feed(x, "up 98;");
        CHECK.due("end(4)", x.end(4), 6);
        Check.feed(x, "1;");
        CHECK.due("text up 91", x.text(), 1);
        CHECK.due("rule(0)", x.rule(0), 91);
    }

    private static void textTellsAll() {
        DropsDance x = new DropsDance();
        CHECK.due("all rules", Check.tell(x, "up 99;down 99;teeth 60 60;leap 9;chimney 99;hiss 50;film 9;roll 60;row neswpxocneps;"), 9);
        int[] most = {99, 99, 60, 60, 9, 99, 50, 9, 60};
        for (int i = 0; i < 9; i++) {
            CHECK.due("most rule(" + i + ")", x.rule(i), most[i]);
        }
        int[] row = {0, 1, 2, 3, 4, 5, 6, 7, 0, 1, 4, 2};
        for (int c = 0; c < 96; c++) {
            CHECK.due("cell(" + c + ")", x.cell(c), c < 12 ? row[c] : 4);
        }
        CHECK.due("least", Check.tell(x, "up 1;down 0;teeth 1 1;leap 0;chimney 1;hiss 1;film 1;roll 0;"), 8);
        int[] least = {1, 0, 1, 1, 0, 1, 1, 1, 0};
        for (int i = 0; i < 9; i++) {
            CHECK.due("least rule(" + i + ")", x.rule(i), least[i]);
        }
        CHECK.due("rows are plain again", x.cell(0), 4);
        CHECK.due("blanks and none", Check.tell(x, "  up07 ;down  5;film\u00209;"), 3);
        CHECK.due("rule(0)", x.rule(0), 7);
        CHECK.due("rule(1)", x.rule(1), 5);
        CHECK.due("rule(7)", x.rule(7), 9);
        CHECK.due("rule(2) is as at first", x.rule(2), 1);
        CHECK.due("rule(3) is as at first", x.rule(3), 60);
        CHECK.due("eight rows", Check.tell(x, (ROW + ROW).repeat(3) + ROW + "row eeeeeeeeeeex;"), 8);
        CHECK.due("cell(84)", x.cell(84), 1);
        CHECK.due("cell(95)", x.cell(95), 5);
        CHECK.due("cell(83)", x.cell(83), 4);
        textBeginsAnew();
    }

    private static void textBeginsAnew() {
        DropsDance x = Check.told("down 0;row oppppppppppp;");
        x.heat(60);
        x.drop(1, 9, 3);
        x.drop(50, 9, 3);
        x.go(2);
        x.keep(0);
        x.saw(1, 1, true, 1);
        x.seed(77);
        x.sheet(0, 1, 5);
        x.read(1, 0, 0, 1);
        CHECK.due("fallen before", x.now(5), 8);
        CHECK.due("empty text", x.text(), 0);
        for (int i = 0; i < 8; i++) {
            CHECK.due("now(" + i + ") behind a text", x.now(i), 0);
        }
        int[] counts = {0, 0, 0, 0, 0, 0, 5};
        for (int i = 0; i < 7; i++) {
            CHECK.due("count(" + i + ") behind a text", x.count(i), counts[i]);
        }
        CHECK.due("back(0) behind a text", x.back(0), -2);
        CHECK.due("of(0, 0) behind a text", x.of(0, 0), -1);
        CHECK.due("torn stays", x.torn(), 1);
        CHECK.due("heat(59) comes from below", x.heat(59), 0);
        CHECK.due("rule(1) as at first", x.rule(1), 40);
        CHECK.due("seed stays", x.seed(0), 77);
        DropsDance y = Check.told("leap 9;film 9;");
        y.heat(60);
        y.drop(0, 9, 1);
        y.go(1);
        y.drop(10, 20, 1);
        y.drop(11, 20, 2);
        y.go(1);
        CHECK.due("leapt before", y.now(6), 8);
        CHECK.due("joined before", y.of(1, 5), 2);
        y.text();
        CHECK.due("leapt behind a text", y.now(6), 0);
        y.drop(0, 5, 0);
        y.drop(1, 5, 0);
        int[] fresh = {1, 5, 0, 0, -4, -4};
        for (int what = 0; what < 6; what++) {
            CHECK.due("of(1, " + what + ") of a new one", y.of(1, what), fresh[what]);
        }
    }

    private static void fault(String text, int fault, int place) {
        DropsDance x = new DropsDance();
        CHECK.due("text \"" + text + "\"", Check.tell(x, text), fault == 0 ? place : -10 - place);
        CHECK.due("fault of \"" + text + "\"", x.fault(), fault);
        CHECK.due("tape behind \"" + text + "\"", x.count(5), 0);
    }

    private static void faults() {
        fault("up\t5;", 1, 2);
        fault("\n", 1, 0);
        fault("Up 5;", 1, 0);
        fault("up 5:", 1, 4);
        fault("up " + (char) 179 + ";", 1, 3);
        fault("up 5" + (char) 0, 1, 4);
        fault("100", 1, 0);
        fault("row 100;", 1, 4);
        fault("up 50;film 007;", 1, 11);
        fault("teeth 1 600;", 1, 8);
        fault("up 50 100;", 1, 6);
        fault("up 50 10;", 2, 6);
        fault("up", 2, 2);
        fault("up  ", 2, 4);
        fault("up 5  ", 2, 6);
        fault("row", 2, 3);
        fault("row pppppppppppp", 2, 16);
        fault("row ;", 2, 4);
        fault(";", 2, 0);
        fault("up 70;;", 2, 6);
        fault("12;", 2, 0);
        fault("ups 1;", 2, 0);
        fault("u 1;", 2, 0);
        fault("xp 1;", 2, 0);
        fault("tow pppppppppppp;", 2, 0);
        fault("upz 1;", 2, 0);
        fault("rowpppppppppppp;", 2, 0);
        fault("up up;", 2, 3);
        fault("up ;", 2, 3);
        fault("teeth 5;", 2, 7);
        fault("teeth 5 ", 2, 8);
        fault("teeth 5 6 7;", 2, 10);
        fault("row pppppppppppp p;", 2, 17);
        fault("row ppppppp ppppp;", 3, 4);
        fault("row ppppppppppp1;", 3, 4);
        fault("row ppppppppppp;", 3, 4);
        fault("row pppppppppppa;", 3, 4);
        fault("row pppppppppppz;", 3, 4);
        fault("row ppppppppppppp", 3, 4);
        fault("up 0;", 3, 3);
        fault("up 00;", 3, 3);
        fault("teeth 0 5;", 3, 6);
        fault("teeth 1 0;", 3, 8);
        fault("teeth 61 62;", 3, 6);
        fault("teeth 60 61;", 3, 9);
        fault("teeth 9 8;", 3, 8);
        fault("teeth 9 9;", 0, 1);
        fault("leap 10;", 3, 5);
        fault("chimney 0;", 3, 8);
        fault("hiss 0;", 3, 5);
        fault("hiss 51;", 3, 5);
        fault("film 0;", 3, 5);
        fault("film 10;", 3, 5);
        fault("roll 61;", 3, 5);
        fault("up 0", 3, 3);
        fault("up 70;up", 4, 6);
        fault("up 70; up 0;", 4, 7);
        fault("teeth 1 2;leap 1;teeth x", 4, 17);
        fault("down 0;down 0;", 4, 7);
        fault("leap 0;chimney 1;leap 0;", 4, 17);
        fault(ROW.repeat(8), 0, 8);
        fault(ROW.repeat(9), 5, 136);
        fault(ROW.repeat(8) + " row", 5, 137);
        fault(ROW.repeat(8) + "row !", 5, 136);
        fault("up 39;", 6, 6);
        fault("up 40;", 0, 1);
        fault("down 60;", 0, 1);
        fault("down 61;  ", 6, 10);
        fault("down 99;up 98;", 6, 14);
        fault("down 99;up 99;", 0, 2);
        fault("down 99;up 0;", 3, 11);
        fault("down 99;!", 1, 8);
        fault("", 0, 0);
    }

    private static void refusedTextChangesNothing() {
        DropsDance x = Check.told("up 70;row xppppppppppp;");
        x.heat(80);
        x.drop(5, 9, 1);
        x.go(2);
        x.keep(1);
        x.saw(1, 1, true, 1);
        CHECK.due("a text with a fault", Check.tell(x, "up 20;down 5;row cccccccccccc;film 1;leap 99;"), -10 - 42);
        CHECK.due("rule(0)", x.rule(0), 70);
        CHECK.due("rule(1)", x.rule(1), 40);
        CHECK.due("rule(7)", x.rule(7), 3);
        CHECK.due("cell(0)", x.cell(0), 5);
        CHECK.due("cell(1)", x.cell(1), 4);
        CHECK.due("now(0)", x.now(0), 2);
        CHECK.due("now(1)", x.now(1), 80);
        CHECK.due("now(2)", x.now(2), 1);
        CHECK.due("count(0)", x.count(0), 1);
        CHECK.due("count(2)", x.count(2), 1);
        CHECK.due("count(3)", x.count(3), 1);
        CHECK.due("count(5)", x.count(5), 0);
        CHECK.due("fault()", x.fault(), 3);
        CHECK.due("fault() again", x.fault(), 3);
        CHECK.due("text()", x.text(), 0);
        CHECK.due("fault() of the latest", x.fault(), 0);
    }

    private static void rulesAndCells() {
        DropsDance x = new DropsDance();
        int[] wrong = {-1, 9, Integer.MIN_VALUE, Integer.MAX_VALUE};
        for (int what : wrong) {
            CHECK.due("rule(" + what + ")", x.rule(what), -1);
        }
        int[] wrongCells = {-1, 96, Integer.MIN_VALUE, Integer.MAX_VALUE};
        for (int c : wrongCells) {
            CHECK.due("cell(" + c + ")", x.cell(c), -1);
            CHECK.due("put(" + c + ")", x.put(c, 0), -1);
        }
    }

    private static void put() {
        DropsDance x = new DropsDance();
        CHECK.due("put(95, 7)", x.put(95, 7), 4);
        CHECK.due("put(95, 0)", x.put(95, 0), 7);
        CHECK.due("put(95, 8)", x.put(95, 8), -1);
        CHECK.due("put(95, -1)", x.put(95, -1), -1);
        CHECK.due("cell(95)", x.cell(95), 0);
        x.drop(3, 2, 0);
        CHECK.due("put wall", x.put(3, 5), -2);
        CHECK.due("put hole", x.put(3, 6), -2);
        CHECK.due("bad before state", x.put(3, 8), -1);
        CHECK.due("cell(3)", x.cell(3), 4);
        CHECK.due("put cold", x.put(3, 7), 4);
        CHECK.due("put tooth", x.put(3, 1), 7);
        CHECK.due("put wall beside", x.put(4, 5), 4);
        x.go(2);
        CHECK.due("put wall, it is gone", x.put(3, 5), 1);
    }
}

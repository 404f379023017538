/** Counts answers that are not the ones due, and ends with exit code 1 if there was one. */
final class Check {
    private int wrong = 0, asked = 0;

    void due(String call, long got, long want) {
        asked++;
        if (got != want) {
            wrong++;
            System.out.println(call + " answered " + got + ", due is " + want);
        }
    }

    void holds(String what, boolean so) {
        due(what, so ? 1 : 0, 1);
    }

    void end(String name) {
        System.out.println(name + ": " + asked + " answers, " + wrong + " not as due");
        if (wrong != 0) {
            System.exit(1);
        }
    }

    /** Feeds a text, cuts the blanks behind it, has it told. */
    static int tell(DropsDance x, String text) {
        feed(x, text);
        return x.text();
    }

    static void feed(DropsDance x, String text) {
        int before = x.count(5);
        for (int i = 0; i < text.length(); i += 8) {
            long v = 0;
            for (int j = 0; j < 8; j++) {
                v = v << 8 | (i + j < text.length() ? text.charAt(i + j) & 255 : 32);
            }
            x.feed(v);
        }
        x.end(Math.min(before + text.length(), x.count(5)));
    }

    /** Keeps every call on it from being counted: a new object that was told a text. */
    static DropsDance told(String text) {
        DropsDance x = new DropsDance();
        int lines = tell(x, text);
        if (lines < 0) {
            throw new IllegalArgumentException("the test's own text has a fault: " + text + " " + lines);
        }
        return x;
    }
}

import java.nio.charset.StandardCharsets;

/** What the tests share: telling a text to an object, and comparing answers with what is due. */
final class Check {
    /** Of a Check without a name nothing is printed. */
    private final String name;
    private int wrong = 0;
    private int asked = 0;

    Check(String name) {
        this.name = name;
    }

    void due(String call, long got, long want) {
        asked++;
        if (got != want) {
            wrong++;
            if (wrong <= 50 && !name.isEmpty()) {
                System.out.println(name + ": " + call + " answered " + got + ", due is " + want);
            }
        }
    }

    /** Answers of one call for the arguments 0, 1, 2 .. */
    void row(String call, int[] got, int... want) {
        for (int i = 0; i < Math.max(got.length, want.length); i++) {
            due(call + " [" + i + "]", i < got.length ? got[i] : Long.MIN_VALUE, i < want.length ? want[i] : Long.MIN_VALUE);
        }
    }

    void wrong(String what) {
        due(what, 1, 0);
    }

    int wrongs() {
        return wrong;
    }

    /** A new object with a PLAN of so many LINES. */
    HeapVersions told(String text, int lines) {
        HeapVersions x = new HeapVersions();
        tell(x, text);
        due("plan() of " + text, x.plan(), lines);
        return x;
    }

    void sound(String text, int lines) {
        HeapVersions x = told(text, lines);
        due("fault(0) of " + text, x.fault(0), 0);
        due("fault(1) of " + text, x.fault(1), -1);
        due("count(6) of " + text, x.count(6), lines);
    }

    /** The sign ^ stands ahead of the place of the FAULT. */
    void fault(int what, String marked) {
        HeapVersions x = told(marked.replace("^", ""), -4);
        due("fault(0) of " + marked, x.fault(0), what);
        due("fault(1) of " + marked, x.fault(1), marked.indexOf('^'));
        due("count(6) of " + marked, x.count(6), 0);
        due("count(7) of " + marked, x.count(7), 0);
    }

    /** Answers of count(0), count(1) .. count(7). */
    static int[] counts(HeapVersions x) {
        int[] counts = new int[8];
        for (int what = 0; what < 8; what++) {
            counts[what] = x.count(what);
        }
        return counts;
    }

    /** Ends the test: with exit code 1 if an answer was not as due. */
    void finish() {
        System.out.println(name + ": " + asked + " answers, " + wrong + " not as due");
        if (wrong != 0) {
            System.exit(1);
        }
    }

    static HeapVersions planned(String text) {
        HeapVersions x = new HeapVersions();
        tell(x, text);
        x.plan();
        return x;
    }

    /** The text's bytes alone stand on the TAPE then. */
    static void tell(HeapVersions x, String text) {
        tellBytes(x, text.getBytes(StandardCharsets.ISO_8859_1));
    }

    static void tellBytes(HeapVersions x, byte[] bytes) {
        x.end(0);
        for (int[] five : fives(bytes)) {
            x.feed(five[0], five[1], five[2], five[3], five[4]);
        }
        x.end(bytes.length);
    }

    /** The arguments of the feeds that bring the bytes, with zeros behind them. */
    static int[][] fives(byte[] bytes) {
        int[][] fives = new int[(bytes.length + 19) / 20][5];
        for (int i = 0; i < bytes.length; i++) {
            fives[i / 20][i % 20 / 4] |= (bytes[i] & 255) << 24 - i % 4 * 8;
        }
        return fives;
    }
}

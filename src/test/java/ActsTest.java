/** Promises 38 to 42: acts, and taking them back. */
public final class ActsTest {
    private static final Check CHECK = new Check("ActsTest");
    /** VERSIONS 0 to 6 have 0, 1, 2, 4, 8, 16, 24 JOBS. */
    private static final String FULL = "plan law 0 hands 1;new;put 0 5 for 1;join 1 1;join 2 2;join 3 3;join 4 4;join 5 4;";

    public static void main(String[] args) {
        puts();
        joins();
        takes();
        full();
        undo();
        anew();
        longRuns();
        CHECK.finish();
    }

    private static void puts() {
        HeapVersions x = Check.planned(FULL);
        CHECK.due("puts(0, 999, 99)", x.puts(0, 999, 99), 7);
        CHECK.due("puts(7, 0, 1)", x.puts(7, 0, 1), 8);
        CHECK.due("version(8, 0)", x.version(8, 0), 1);
        CHECK.due("version(8, 1)", x.version(8, 1), 7);
        CHECK.due("version(8, 3)", x.version(8, 3), 2);
        CHECK.due("job(1, 0)", x.job(1, 0), 999);
        CHECK.due("job(1, 1)", x.job(1, 1), 99);
        CHECK.due("job(2, 0)", x.job(2, 0), 0);
        CHECK.due("place(8, 0)", x.place(8, 0), 2);
        CHECK.due("place(8, 1)", x.place(8, 1), 1);
        for (int v : new int[] {-1, 9, Integer.MAX_VALUE, Integer.MIN_VALUE}) {
            CHECK.due("puts(" + v + ", 1, 1)", x.puts(v, 1, 1), -2);
        }
        CHECK.due("puts(6, -1, 1)", x.puts(6, -1, 1), -2);
        CHECK.due("puts(6, 1000, 1)", x.puts(6, 1000, 1), -2);
        CHECK.due("puts(6, 1, 0)", x.puts(6, 1, 0), -2);
        CHECK.due("puts(6, 1, 100)", x.puts(6, 1, 100), -2);
        CHECK.due("puts(6, 1, 1)", x.puts(6, 1, 1), -3);
        CHECK.due("count(2)", x.count(2), 9);
        CHECK.due("count(3)", x.count(3), 3);
        CHECK.due("takes(6)", x.takes(6), 9);
        CHECK.due("puts(9, 1, 1): 24 JOBS", x.puts(9, 1, 1), 10);
        CHECK.due("size(10)", x.size(10), 24);
    }

    private static void joins() {
        HeapVersions x = Check.planned(FULL);
        CHECK.due("joins(5, 4): 24 JOBS", x.joins(5, 4), 7);
        CHECK.due("size(7)", x.size(7), 24);
        CHECK.due("version(7, 0)", x.version(7, 0), 2);
        CHECK.due("version(7, 1)", x.version(7, 1), 5);
        CHECK.due("version(7, 2)", x.version(7, 2), 4);
        CHECK.due("joins(6, 1)", x.joins(6, 1), -3);
        CHECK.due("joins(1, 6)", x.joins(1, 6), -3);
        CHECK.due("joins(6, 0)", x.joins(6, 0), 8);
        CHECK.due("joins(0, 0)", x.joins(0, 0), 9);
        CHECK.due("size(9)", x.size(9), 0);
        CHECK.due("times(8, 0)", x.times(8, 0), 24);
        for (int v : new int[] {-1, 10, Integer.MAX_VALUE, Integer.MIN_VALUE}) {
            CHECK.due("joins(" + v + ", 0)", x.joins(v, 0), -2);
            CHECK.due("joins(0, " + v + ")", x.joins(0, v), -2);
        }
    }

    private static void takes() {
        HeapVersions x = Check.planned(FULL);
        CHECK.due("takes(0)", x.takes(0), -3);
        CHECK.due("takes(1)", x.takes(1), 7);
        CHECK.due("size(7)", x.size(7), 0);
        CHECK.due("takes(7)", x.takes(7), -3);
        CHECK.due("version(7, 0)", x.version(7, 0), 3);
        CHECK.due("version(7, 1)", x.version(7, 1), 1);
        CHECK.due("version(7, 2)", x.version(7, 2), -1);
        CHECK.due("version(7, 3)", x.version(7, 3), 0);
        CHECK.due("takes(6)", x.takes(6), 8);
        CHECK.due("size(8)", x.size(8), 23);
        for (int v : new int[] {-1, 9, Integer.MAX_VALUE, Integer.MIN_VALUE}) {
            CHECK.due("takes(" + v + ")", x.takes(v), -2);
        }
    }

    private static void full() {
        HeapVersions x = Check.planned(FULL);
        for (int v = 7; v < 30; v++) {
            CHECK.due("puts(0, 1, 1)", x.puts(0, 1, 1), v);
        }
        CHECK.due("puts(0, 1, 1)", x.puts(0, 1, 1), -5);
        CHECK.due("puts(6, 1, 1): ahead of -3", x.puts(6, 1, 1), -5);
        CHECK.due("puts(0, 1000, 1): behind -2", x.puts(0, 1000, 1), -2);
        CHECK.due("joins(0, 0)", x.joins(0, 0), -5);
        CHECK.due("joins(6, 6)", x.joins(6, 6), -5);
        CHECK.due("joins(0, 30)", x.joins(0, 30), -2);
        CHECK.due("takes(1)", x.takes(1), -5);
        CHECK.due("takes(0)", x.takes(0), -5);
        CHECK.due("takes(30)", x.takes(30), -2);
        CHECK.due("count(2)", x.count(2), 30);
        CHECK.due("count(3)", x.count(3), 24);
        CHECK.due("undo()", x.undo(), 22);
        CHECK.due("takes(6)", x.takes(6), 29);
        CHECK.due("from(29, 5)", x.from(29, 5), 1);
        CHECK.due("takes(6)", x.takes(6), -5);
    }

    private static void undo() {
        HeapVersions x = Check.planned(FULL);
        CHECK.due("undo()", x.undo(), -5);
        x.puts(0, 7, 3);
        x.joins(7, 1);
        x.takes(8);
        CHECK.due("undo()", x.undo(), 2);
        CHECK.due("size(9)", x.size(9), -2);
        CHECK.due("count(3)", x.count(3), 2);
        CHECK.due("undo()", x.undo(), 1);
        CHECK.due("undo()", x.undo(), 0);
        CHECK.due("count(3): its JOB, of a put", x.count(3), 1);
        CHECK.due("job(1, 0)", x.job(1, 0), -2);
        CHECK.due("times(0, 1)", x.times(0, 1), -2);
        CHECK.due("undo()", x.undo(), -5);
        CHECK.due("count(2)", x.count(2), 7);
        CHECK.due("puts(0, 8, 4)", x.puts(0, 8, 4), 7);
        CHECK.due("job(1, 0)", x.job(1, 0), 8);
        CHECK.due("job(1, 1)", x.job(1, 1), 4);
        CHECK.due("parts(7)", x.parts(7), 1);
        CHECK.due("own(7)", x.own(7), 1);
        CHECK.due("shared(7, 6)", x.shared(7, 6), 0);
    }

    private static void anew() {
        HeapVersions x = Check.planned(FULL);
        int links = x.all();
        CHECK.due("anew()", x.anew(), 0);
        x.puts(0, 7, 3);
        x.puts(7, 6, 3);
        x.takes(6);
        x.takes(9);
        CHECK.due("anew()", x.anew(), 4);
        CHECK.due("count(2)", x.count(2), 7);
        CHECK.due("count(3)", x.count(3), 1);
        CHECK.due("count(5)", x.count(5), 0);
        CHECK.due("all()", x.all(), links);
        CHECK.due("anew()", x.anew(), 0);
        CHECK.due("undo()", x.undo(), -5);
        CHECK.due("size(6)", x.size(6), 24);
        CHECK.due("takes(6)", x.takes(6), 7);
    }

    /** Whatever was made and is no more leaves its room to what is made behind it. */
    private static void longRuns() {
        HeapVersions x = Check.planned(FULL);
        int drain = x.drain(6);
        int dearest = x.dearest(6);
        for (int i = 0; i < 200; i++) {
            CHECK.due("drain(6)", x.drain(6), drain);
            CHECK.due("dearest(6)", x.dearest(6), dearest);
        }
        HeapVersions y = Check.planned(FULL);
        CHECK.due("takes(6)", y.takes(6), 7);
        int[] first = about(y, 7);
        for (int i = 0; i < 220; i++) {
            CHECK.due("undo()", y.undo(), 0);
            CHECK.due("takes(6)", y.takes(6), 7);
        }
        CHECK.row("what VERSION 7 is", about(y, 7), first);
        HeapVersions z = Check.planned(FULL);
        z.takes(6);
        for (int i = 0; i < 20; i++) {
            for (int v = 7; v < 30; v++) {
                z.takes(v == 7 ? 6 : v - 1);
            }
            z.anew();
        }
        z.takes(6);
        CHECK.row("what VERSION 7 is", about(z, 7), first);
    }

    private static int[] about(HeapVersions x, int v) {
        return new int[] {x.size(v), x.least(v), x.trees(v), x.rank(v, 0), x.holds(v, 0), x.holds(v, 1), x.singles(v, 0),
            x.depth(v), x.parts(v), x.own(v), x.shared(v, v - 1), x.links(v), x.drain(v), x.dearest(v)};
    }
}

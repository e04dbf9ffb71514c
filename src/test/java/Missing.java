/** Numbers of VERSIONS (and of JOBS) that are not there, for all the calls that answer -2 then. */
final class Missing {
    private static final String PLAN = "plan law 0 hands 1;";
    private static final String THREE = PLAN + "new;put 0 5 for 1;put 1 6 for 2;";

    private Missing() {
    }

    /** A call with one number that may be wrong, all else being right. */
    interface Call {
        int of(HeapVersions x, int number);
    }

    /** -2 for each VERSION that is not there, another answer for each that is. */
    static void versions(Check c, String name, Call call) {
        none(c, name + " of a new object", call, new HeapVersions(), 0, 1);
        none(c, name + " of plan alone", call, c.told(PLAN, 1), 0, 1);
        HeapVersions x = c.told(THREE, 4);
        none(c, name + " of three", call, x, 3, 4, 19, 20, 29, 30, 31, 32, 33, 64);
        some(c, name + " of three", call, x, 0, 1, 2);
        x.puts(2, 7, 3);
        x.takes(3);
        x.joins(1, 2);
        some(c, name + " with acts", call, x, 0, 3, 4, 5);
        none(c, name + " with acts", call, x, 6);
        x.undo();
        none(c, name + " behind undo", call, x, 5, 6);
        some(c, name + " behind undo", call, x, 4);
        x.anew();
        none(c, name + " behind anew", call, x, 3, 4, 5);
        some(c, name + " behind anew", call, x, 2);
        Check.tell(x, PLAN + "new;");
        c.due("plan()", x.plan(), 2);
        none(c, name + " of another PLAN", call, x, 1, 2);
        some(c, name + " of another PLAN", call, x, 0);
        c.due("plan()", x.plan(), 0);
        none(c, name + " without a PLAN", call, x, 0, 1);
        HeapVersions full = full();
        some(c, name + " of thirty", call, full, 0, 19, 20, 29);
        none(c, name + " of thirty", call, full, 30, 31);
    }

    /** As many VERSIONS as there can be; each has JOB 0 alone, but for the first and the last, which are empty. */
    private static HeapVersions full() {
        HeapVersions x = Check.planned(PLAN + "new;put 0 500 for 1;" + "join 0 1;".repeat(18));
        for (int v = 20; v < 29; v++) {
            x.joins(v - 1, 0);
        }
        x.takes(28);
        return x;
    }

    /** -2 for each JOB that is not there, another answer for each that is. */
    static void jobs(Check c, String name, Call call) {
        none(c, name + " of plan alone", call, c.told(PLAN, 1), 0, 1);
        none(c, name + " of new alone", call, c.told(PLAN + "new;", 2), 0, 1);
        HeapVersions x = c.told(THREE, 4);
        some(c, name + " of two", call, x, 0, 1);
        none(c, name + " of two", call, x, 2, 3, 29, 30, 31);
        x.puts(2, 7, 3);
        some(c, name + " with an act", call, x, 0, 2);
        none(c, name + " with an act", call, x, 3);
        x.takes(3);
        some(c, name + ": a JOB that was taken is there", call, x, 0);
        x.undo();
        some(c, name + " behind undo of a take", call, x, 2);
        x.undo();
        none(c, name + " behind undo of a put", call, x, 2);
        x.puts(2, 7, 3);
        x.puts(2, 8, 4);
        x.anew();
        none(c, name + " behind anew", call, x, 2, 3);
        some(c, name + " behind anew", call, x, 1);
        c.due("plan()", x.plan(), 0);
        none(c, name + " without a PLAN", call, x, 0, 1);
        HeapVersions full = c.told(PLAN + "new;", 2);
        for (int v = 1; v < 30; v++) {
            full.puts(0, 5, 5);
        }
        some(c, name + " of 29", call, full, 0, 28);
        none(c, name + " of 29", call, full, 29, 30);
    }

    static void none(Check c, String name, Call call, HeapVersions x, int... numbers) {
        for (int number : numbers) {
            c.due(name + ", " + number, call.of(x, number), -2);
        }
        for (int number : new int[] {-1, -2, Integer.MIN_VALUE, Integer.MAX_VALUE}) {
            c.due(name + ", " + number, call.of(x, number), -2);
        }
    }

    static void some(Check c, String name, Call call, HeapVersions x, int... numbers) {
        for (int number : numbers) {
            c.due(name + ", " + number + " is there", call.of(x, number) == -2 ? -2 : 0, 0);
        }
    }

    /** -2 for each i below 0. */
    static void below0(Check c, String name, Call call) {
        HeapVersions x = c.told(THREE, 4);
        for (int i : new int[] {-1, -2, -24, Integer.MIN_VALUE}) {
            c.due(name + " of i " + i, call.of(x, i), -2);
        }
        c.due(name + " of i 0 is there", call.of(x, 0) < 0 ? 1 : 0, 0);
    }
}

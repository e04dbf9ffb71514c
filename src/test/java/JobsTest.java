/** Promises 7 to 12 and 28 to 33: how VERSIONS were made, the JOBS that they have, what would be without a put. */
public final class JobsTest {
    private static final Check CHECK = new Check("JobsTest");
    private static final int MOST = Integer.MAX_VALUE;
    private static final int LEAST = Integer.MIN_VALUE;
    /** JOBS 0 to 3 of the KEYS 7, 7, 3, 7; VERSION 8 has JOB 1 twice. */
    private static final String PLAN = "plan law 1 hands 1;new;put 0 7 for 1;put 0 7 for 2;put 2 3 for 3;join 1 3;take 4;"
            + "put 5 7 for 4;new;join 6 2;take 8;take 2;take 1;";

    public static void main(String[] args) {
        made();
        jobs();
        places();
        twoVersions();
        ancestors();
        withoutPut();
        withoutPutOfActs();
        CHECK.finish();
    }

    private static void made() {
        HeapVersions x = Check.planned(PLAN);
        int[][] due = {{0, -1, -1, -1}, {1, 0, -1, 0}, {1, 0, -1, 1}, {1, 2, -1, 2}, {2, 1, 3, -1}, {3, 4, -1, 2},
            {1, 5, -1, 3}, {0, -1, -1, -1}, {2, 6, 2, -1}, {3, 8, -1, 0}, {3, 2, -1, 1}, {3, 1, -1, 0}};
        for (int v = 0; v < due.length; v++) {
            for (int what = 0; what < 4; what++) {
                CHECK.due("version(" + v + ", " + what + ")", x.version(v, what), due[v][what]);
            }
        }
        CHECK.due("version(12, 0)", x.version(12, 0), -2);
        CHECK.due("version(-1, 0)", x.version(-1, 0), -2);
        CHECK.due("version(0, 4)", x.version(0, 4), -2);
        CHECK.due("version(0, -1)", x.version(0, -1), -2);
        CHECK.due("version(most, 0)", x.version(MOST, 0), -2);
        CHECK.due("version(0, most)", x.version(0, MOST), -2);
    }

    private static void jobs() {
        HeapVersions x = Check.planned(PLAN);
        int[][] due = {{7, 1}, {7, 2}, {3, 3}, {7, 4}};
        for (int j = 0; j < due.length; j++) {
            CHECK.due("job(" + j + ", 0)", x.job(j, 0), due[j][0]);
            CHECK.due("job(" + j + ", 1)", x.job(j, 1), due[j][1]);
        }
        CHECK.due("job(4, 0)", x.job(4, 0), -2);
        CHECK.due("job(-1, 0)", x.job(-1, 0), -2);
        CHECK.due("job(0, 2)", x.job(0, 2), -2);
        CHECK.due("job(0, -1)", x.job(0, -1), -2);
        CHECK.due("job(most, 1)", x.job(MOST, 1), -2);
    }

    private static void places() {
        HeapVersions x = Check.planned(PLAN);
        int[][] due = {{}, {0}, {1}, {2, 1}, {2, 0, 1}, {0, 1}, {0, 1, 3}, {}, {0, 1, 1, 3}, {1, 1, 3}, {}, {}};
        for (int v = 0; v < due.length; v++) {
            CHECK.due("size(" + v + ")", x.size(v), due[v].length);
            CHECK.due("least(" + v + ")", x.least(v), due[v].length == 0 ? -1 : due[v][0]);
            int[] times = new int[4];
            for (int i = 0; i < due[v].length; i++) {
                CHECK.due("place(" + v + ", " + i + ")", x.place(v, i), due[v][i]);
                times[due[v][i]]++;
            }
            CHECK.due("place(" + v + ") behind the last", x.place(v, due[v].length), -1);
            CHECK.due("place(" + v + ", most)", x.place(v, MOST), -1);
            CHECK.due("place(" + v + ", -1)", x.place(v, -1), -2);
            for (int j = 0; j < 4; j++) {
                CHECK.due("times(" + v + ", " + j + ")", x.times(v, j), times[j]);
            }
        }
        for (int v : new int[] {-1, 12, MOST, LEAST}) {
            CHECK.due("size(" + v + ")", x.size(v), -2);
            CHECK.due("least(" + v + ")", x.least(v), -2);
            CHECK.due("place(" + v + ", 0)", x.place(v, 0), -2);
            CHECK.due("times(" + v + ", 0)", x.times(v, 0), -2);
            CHECK.due("times(0, job)", x.times(0, v == 12 ? 4 : v), -2);
        }
    }

    private static void twoVersions() {
        HeapVersions x = Check.planned(PLAN);
        CHECK.due("same(0, 7)", x.same(0, 7), 1);
        CHECK.due("same(10, 11)", x.same(10, 11), 1);
        CHECK.due("same(1, 2)", x.same(1, 2), 0);
        CHECK.due("same(8, 8)", x.same(8, 8), 1);
        CHECK.due("same(8, 6): not as often", x.same(8, 6), 0);
        CHECK.due("same(6, 8)", x.same(6, 8), 0);
        CHECK.due("more(8, 6)", x.more(8, 6), 1);
        CHECK.due("more(6, 8)", x.more(6, 8), 0);
        CHECK.due("more(9, 4)", x.more(9, 4), 2);
        CHECK.due("more(4, 9)", x.more(4, 9), 2);
        CHECK.due("more(8, 0)", x.more(8, 0), 4);
        CHECK.due("more(0, 8)", x.more(0, 8), 0);
        CHECK.due("more(1, 2)", x.more(1, 2), 1);
        for (int v : new int[] {-1, 12, MOST, LEAST}) {
            CHECK.due("same(" + v + ", 0)", x.same(v, 0), -2);
            CHECK.due("same(0, " + v + ")", x.same(0, v), -2);
            CHECK.due("more(" + v + ", 0)", x.more(v, 0), -2);
            CHECK.due("more(0, " + v + ")", x.more(0, v), -2);
        }
    }

    private static void ancestors() {
        HeapVersions x = Check.planned(PLAN);
        int[][] due = {{}, {0}, {0}, {0, 2}, {0, 1, 2, 3}, {0, 1, 2, 3, 4}, {0, 1, 2, 3, 4, 5}, {},
            {0, 1, 2, 3, 4, 5, 6}, {0, 1, 2, 3, 4, 5, 6, 8}, {0, 2}, {0, 1}};
        for (int v = 0; v < due.length; v++) {
            CHECK.due("roots(" + v + ")", x.roots(v), due[v].length);
            int[] from = new int[12];
            from[v] = 1;
            for (int root : due[v]) {
                from[root] = 1;
            }
            for (int other = 0; other < 12; other++) {
                CHECK.due("from(" + v + ", " + other + ")", x.from(v, other), from[other]);
            }
        }
        for (int v : new int[] {-1, 12, 32, MOST, LEAST}) {
            CHECK.due("roots(" + v + ")", x.roots(v), -2);
            CHECK.due("from(" + v + ", 0)", x.from(v, 0), -2);
            CHECK.due("from(0, " + v + ")", x.from(0, v), -2);
        }
    }

    private static void withoutPut() {
        HeapVersions x = Check.planned(PLAN);
        // without the put of VERSION 1: 4 is {2, 1}, 5 is {1}, 6 is {1, 3}, 8 is {1, 1, 3}, 9 is {1, 3}, 11 is empty
        int[] leastOf1 = {-1, -1, 1, 2, 2, 1, 1, -1, 1, 1, -1, -1};
        int[] leftOf1 = {0, 0, 1, 2, 2, 1, 2, 0, 3, 2, 0, 0};
        // without that of VERSION 2: 3 is {2}, 4 is {2, 0}, 5 is {0}, 6 is {0, 3}, 8 is {0, 3}, 9 is {3}
        int[] leastOf2 = {-1, 0, -1, 2, 2, 0, 0, -1, 0, 3, -1, -1};
        int[] leftOf2 = {0, 1, 0, 1, 2, 1, 2, 0, 2, 1, 0, 0};
        for (int v = 0; v < 12; v++) {
            CHECK.due("without(" + v + ", 1)", x.without(v, 1), leastOf1[v]);
            CHECK.due("left(" + v + ", 1)", x.left(v, 1), leftOf1[v]);
            CHECK.due("without(" + v + ", 2)", x.without(v, 2), leastOf2[v]);
            CHECK.due("left(" + v + ", 2)", x.left(v, 2), leftOf2[v]);
        }
        // without the put of JOB 2, VERSION 4 is {0, 1} and its least, JOB 0, is taken
        CHECK.due("without(5, 3)", x.without(5, 3), 1);
        CHECK.due("left(5, 3)", x.left(5, 3), 1);
        for (int v : new int[] {-1, 12, MOST, LEAST, 0, 4, 5, 7}) {
            CHECK.due("without(1, " + v + ")", x.without(1, v), -2);
            CHECK.due("left(1, " + v + ")", x.left(1, v), -2);
        }
        for (int v : new int[] {-1, 12, MOST, LEAST}) {
            CHECK.due("without(" + v + ", 1)", x.without(v, 1), -2);
            CHECK.due("left(" + v + ", 1)", x.left(v, 1), -2);
        }
        CHECK.due("size(8): nothing has changed", x.size(8), 4);
        CHECK.due("least(8): nothing has changed", x.least(8), 0);
    }

    private static void withoutPutOfActs() {
        HeapVersions x = Check.planned("plan law 0 hands 1;new;put 0 9 for 1;");
        CHECK.due("puts(1, 4, 1)", x.puts(1, 4, 1), 2);
        CHECK.due("takes(2)", x.takes(2), 3);
        CHECK.due("joins(3, 2)", x.joins(3, 2), 4);
        CHECK.due("without(3, 2)", x.without(3, 2), -1);
        CHECK.due("left(3, 2)", x.left(3, 2), 0);
        CHECK.due("without(4, 2)", x.without(4, 2), 0);
        CHECK.due("left(4, 2)", x.left(4, 2), 1);
        CHECK.due("without(4, 3)", x.without(4, 3), -2);
        CHECK.due("left(4, 1)", x.left(4, 1), 1);
        CHECK.due("without(4, 1)", x.without(4, 1), 1);
    }
}

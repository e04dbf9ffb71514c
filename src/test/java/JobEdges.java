/** Terms III, promises 7 to 12 and 28 to 33: how VERSIONS were made, their JOBS, what would be without a put. */
final class JobEdges {
    private static final int MOST = Integer.MAX_VALUE;
    private static final int LEAST = Integer.MIN_VALUE;
    /** VERSIONS: 0 {}, 1 {0}, 2 {0 1}, 3 {1 0 2}, 4 {}, 5 {0 0 1}, 6 {0 1}, 7 {}; JOBS of the KEYS 5, 7, 3. */
    private static final String PLAN = "plan law 0 hands 1;new;put 0 5 for 1;put 1 7 for 2;put 2 3 for 3;new;join 2 1;take 5;"
            + "take 1;";
    /** VERSIONS 0 to 6 have 0, 1, 2, 4, 8, 16, 24 times JOB 0. */
    private static final String FULL = "plan law 0 hands 1;new;put 0 5 for 1;join 1 1;join 2 2;join 3 3;join 4 4;join 5 4;";

    private JobEdges() {
    }

    // ---- promises 7 and 8

    @Edge(of = "7", says = "Of a VERSION, what 0: how it was made (0 new, 1 put, 2 join, 3 take)")
    static void p07_howItWasMade(Check c) {
        HeapVersions x = c.told(PLAN, 9);
        int[] due = {0, 1, 1, 1, 0, 2, 3, 3};
        for (int v = 0; v < 8; v++) {
            c.due("version(" + v + ", 0)", x.version(v, 0), due[v]);
        }
        c.due("of acts", x.version(x.puts(0, 1, 1), 0), 1);
        c.due("of acts", x.version(x.joins(0, 0), 0), 2);
        c.due("of acts", x.version(x.takes(1), 0), 3);
    }

    @Edge(of = "7", says = ", 1: the VERSION of which")
    static void p07_theVersionOfWhich(Check c) {
        HeapVersions x = c.told(PLAN, 9);
        int[] due = {-1, 0, 1, 2, -1, 2, 5, 1};
        for (int v = 0; v < 8; v++) {
            c.due("version(" + v + ", 1)", x.version(v, 1), due[v]);
        }
        c.due("of acts", x.version(x.joins(4, 3), 1), 4);
    }

    @Edge(of = "7", says = ", 2: the other one of a join")
    static void p07_theOtherOneOfAJoin(Check c) {
        HeapVersions x = c.told(PLAN, 9);
        int[] due = {-1, -1, -1, -1, -1, 1, -1, -1};
        for (int v = 0; v < 8; v++) {
            c.due("version(" + v + ", 2)", x.version(v, 2), due[v]);
        }
        c.due("of acts", x.version(x.joins(4, 3), 2), 3);
        c.due("of itself twice", x.version(x.joins(0, 0), 2), 0);
    }

    @Edge(of = "7", says = ", 3: the JOB that was put, taken")
    static void p07_theJobThatWasPutTaken(Check c) {
        HeapVersions x = c.told(PLAN, 9);
        int[] due = {-1, 0, 1, 2, -1, -1, 0, 0};
        for (int v = 0; v < 8; v++) {
            c.due("version(" + v + ", 3)", x.version(v, 3), due[v]);
        }
        c.due("put by an act", x.version(x.puts(0, 1, 1), 3), 3);
        c.due("taken by an act", x.version(x.takes(3), 3), 2);
    }

    @Edge(of = "7", says = "(NONE each: none such)")
    static void p07_noneEachNoneSuch(Check c) {
        HeapVersions x = c.told(PLAN, 9);
        c.row("of new", row(x, 4), 0, -1, -1, -1);
        c.row("of put", row(x, 1), 1, 0, -1, 0);
        c.row("of join", row(x, 5), 2, 2, 1, -1);
        c.row("of take", row(x, 7), 3, 1, -1, 0);
        // what an earlier VERSION of that number was is of no weight
        c.row("of a join", row(x, x.joins(1, 2)), 2, 1, 2, -1);
        x.undo();
        c.row("of a take in its place", row(x, x.takes(2)), 3, 2, -1, 0);
        Check.tell(x, "plan law 0 hands 1;" + "new;".repeat(9));
        x.plan();
        c.row("of new in its place", row(x, 8), 0, -1, -1, -1);
        c.row("of new in place of a put", row(x, 1), 0, -1, -1, -1);
    }

    private static int[] row(HeapVersions x, int v) {
        return new int[] {x.version(v, 0), x.version(v, 1), x.version(v, 2), x.version(v, 3)};
    }

    @Edge(of = "7", says = "-2: there are none such")
    static void p07_minus2ThereAreNoneSuch(Check c) {
        for (int what = 0; what < 4; what++) {
            int asked = what;
            Missing.versions(c, "version(v, " + what + ")", (x, v) -> x.version(v, asked));
        }
        HeapVersions x = c.told(PLAN, 9);
        for (int what : new int[] {-1, 4, 5, MOST, LEAST}) {
            c.due("version(1, " + what + ")", x.version(1, what), -2);
        }
    }

    @Edge(of = "8", says = "Of a JOB, what 0: its KEY, 1: its TIME")
    static void p08_keyAndTime(Check c) {
        HeapVersions x = c.told("plan law 0 hands 1;new;put 0 0 for 1;put 1 999 for 99;put 0 0 for 1;", 5);
        c.row("KEYS", new int[] {x.job(0, 0), x.job(1, 0), x.job(2, 0)}, 0, 999, 0);
        c.row("TIMES", new int[] {x.job(0, 1), x.job(1, 1), x.job(2, 1)}, 1, 99, 1);
        x.puts(0, 998, 98);
        c.row("of an act", new int[] {x.job(3, 0), x.job(3, 1)}, 998, 98);
        x.undo();
        x.puts(0, 7, 8);
        c.row("in its place", new int[] {x.job(3, 0), x.job(3, 1)}, 7, 8);
    }

    @Edge(of = "8", says = "-2: there are none such")
    static void p08_minus2ThereAreNoneSuch(Check c) {
        Missing.jobs(c, "job(j, 0)", (x, j) -> x.job(j, 0));
        Missing.jobs(c, "job(j, 1)", (x, j) -> x.job(j, 1));
        HeapVersions x = c.told(PLAN, 9);
        for (int what : new int[] {-1, 2, 3, MOST, LEAST}) {
            c.due("job(0, " + what + ")", x.job(0, what), -2);
        }
    }

    // ---- promises 9 to 12

    @Edge(of = "9", says = "How many JOBS a VERSION has (one that is there twice counts twice)")
    static void p09_oneThatIsThereTwiceCountsTwice(Check c) {
        HeapVersions x = c.told(FULL, 8);
        int[] due = {0, 1, 2, 4, 8, 16, 24};
        for (int v = 0; v < 7; v++) {
            c.due("size(" + v + ")", x.size(v), due[v]);
        }
        c.due("size of an empty join", x.size(x.joins(0, 0)), 0);
        c.due("size of one taken", x.size(x.takes(2)), 1);
    }

    @Edge(of = "9", says = "-2: there is no such VERSION")
    static void p09_minus2ThereIsNoSuchVersion(Check c) {
        Missing.versions(c, "size", HeapVersions::size);
    }

    @Edge(of = "10", says = "Its least JOB")
    static void p10_itsLeastJob(Check c) {
        HeapVersions x = c.told(PLAN, 9);
        c.row("least", new int[] {x.least(1), x.least(2), x.least(3), x.least(5), x.least(6)}, 0, 0, 2, 0, 0);
        HeapVersions y = c.told("plan law 1 hands 1;new;put 0 5 for 9;put 1 5 for 1;take 2;", 5);
        c.row("of one KEY the least number", new int[] {y.least(2), y.least(3)}, 0, 1);
        c.due("KEY 0", y.least(y.puts(2, 0, 1)), 2);
    }

    @Edge(of = "10", says = "NONE: it is empty")
    static void p10_noneItIsEmpty(Check c) {
        HeapVersions x = c.told(PLAN, 9);
        c.due("of new", x.least(0), -1);
        c.due("of a new behind others", x.least(4), -1);
        c.due("of take", x.least(7), -1);
        c.due("of join", x.least(x.joins(0, 4)), -1);
    }

    @Edge(of = "10", says = "-2 likewise")
    static void p10_minus2Likewise(Check c) {
        Missing.versions(c, "least", HeapVersions::least);
    }

    @Edge(of = "11", says = "Its JOB i (from 0) in order, the least first")
    static void p11_itsJobIInOrder(Check c) {
        HeapVersions x = c.told(PLAN, 9);
        c.row("place(3, i)", new int[] {x.place(3, 0), x.place(3, 1), x.place(3, 2)}, 2, 0, 1);
        c.row("place(5, i): one that is there twice", new int[] {x.place(5, 0), x.place(5, 1), x.place(5, 2)}, 0, 0, 1);
        HeapVersions y = c.told(FULL, 8);
        c.due("place(6, 23)", y.place(6, 23), 0);
    }

    @Edge(of = "11", says = "NONE: there are not so many")
    static void p11_noneThereAreNotSoMany(Check c) {
        HeapVersions x = c.told(FULL, 8);
        int[] sizes = {0, 1, 2, 4, 8, 16, 24};
        for (int v = 0; v < 7; v++) {
            c.due("place(" + v + ", size)", x.place(v, sizes[v]), -1);
            c.due("place(" + v + ", 24)", x.place(v, 24), -1);
            c.due("place(" + v + ", most)", x.place(v, MOST), -1);
        }
        // what stood there in an earlier VERSION of that number is no more
        x.joins(5, 4);
        x.undo();
        x.joins(0, 1);
        c.due("place(7, 1)", x.place(7, 1), -1);
    }

    @Edge(of = "11", says = "-2: there is no such VERSION")
    static void p11_minus2ThereIsNoSuchVersion(Check c) {
        Missing.versions(c, "place(v, 0)", (x, v) -> x.place(v, 0));
        Missing.versions(c, "place(v, 24)", (x, v) -> x.place(v, 24));
    }

    @Edge(of = "11", says = ", i is below 0")
    static void p11_minus2IIsBelow0(Check c) {
        Missing.below0(c, "place(2, i)", (x, i) -> x.place(2, i));
        c.due("place(0, -1) of an empty one", c.told(PLAN, 9).place(0, -1), -2);
    }

    @Edge(of = "12", says = "How often it has a JOB")
    static void p12_howOftenItHasAJob(Check c) {
        HeapVersions x = c.told(PLAN, 9);
        c.row("times(5, j)", new int[] {x.times(5, 0), x.times(5, 1), x.times(5, 2)}, 2, 1, 0);
        c.row("times of an empty one", new int[] {x.times(0, 0), x.times(0, 1), x.times(7, 0)}, 0, 0, 0);
        c.due("a JOB of a later VERSION", x.times(1, 2), 0);
        HeapVersions y = c.told(FULL, 8);
        c.due("times(6, 0)", y.times(6, 0), 24);
        y.joins(1, 1);
        y.undo();
        y.joins(0, 1);
        c.due("times(7, 0): not of one that is no more", y.times(7, 0), 1);
    }

    @Edge(of = "12", says = "-2: there are none such")
    static void p12_minus2ThereAreNoneSuch(Check c) {
        Missing.jobs(c, "times(0, j)", (x, j) -> x.times(0, j));
        HeapVersions x = c.told(PLAN, 9);
        Missing.none(c, "times(v, 0)", (y, v) -> y.times(v, 0), x, 8, 9, 29, 30);
        Missing.some(c, "times(v, 0)", (y, v) -> y.times(v, 0), x, 0, 7);
        Missing.none(c, "times(v, 0) without JOBS", (y, v) -> y.times(v, 0), new HeapVersions(), 0, 1);
        x.takes(3);
        c.due("times of an act", x.times(8, 0), 1);
        x.undo();
        c.due("times behind undo", x.times(8, 0), -2);
    }

    // ---- promises 28 to 31

    @Edge(of = "28", says = "1 if two VERSIONS have the same JOBS, as often, else 0")
    static void p28_theSameJobsAsOften(Check c) {
        HeapVersions x = c.told(PLAN, 9);
        c.due("same(0, 4): both are empty", x.same(0, 4), 1);
        c.due("same(0, 7): both are empty", x.same(0, 7), 1);
        c.due("same(5, 5)", x.same(5, 5), 1);
        c.due("same(2, 6): made otherwise", x.same(2, 6), 1);
        c.due("same(2, 5): not as often", x.same(2, 5), 0);
        c.due("same(5, 2): not as often", x.same(5, 2), 0);
        c.due("same(0, 1)", x.same(0, 1), 0);
        c.due("same(1, 0)", x.same(1, 0), 0);
        x.joins(6, 2);
        x.joins(5, 1);
        c.due("same: as many, but not as often each", x.same(9, 8), 0);
        HeapVersions y = c.told("plan law 0 hands 1;new;put 0 5 for 1;put 0 5 for 1;", 4);
        c.due("same(1, 2): JOBS alike", y.same(1, 2), 0);
    }

    @Edge(of = "28", says = "-2: there are none such")
    static void p28_minus2ThereAreNoneSuch(Check c) {
        Missing.versions(c, "same(v, 0)", (x, v) -> x.same(v, 0));
        Missing.versions(c, "same(0, v)", (x, v) -> x.same(0, v));
        Missing.versions(c, "same(v, v)", (x, v) -> x.same(v, v));
    }

    @Edge(of = "29", says = "How many JOBS one has that another one has not (as often as it has them more)")
    static void p29_asOftenAsItHasThemMore(Check c) {
        HeapVersions x = c.told(FULL, 8);
        c.due("more(6, 0)", x.more(6, 0), 24);
        c.due("more(0, 6)", x.more(0, 6), 0);
        c.due("more(6, 5)", x.more(6, 5), 8);
        c.due("more(5, 6)", x.more(5, 6), 0);
        c.due("more(6, 6)", x.more(6, 6), 0);
        c.due("more(0, 0)", x.more(0, 0), 0);
        HeapVersions y = c.told(PLAN, 9);
        c.due("more(3, 5): JOB 2", y.more(3, 5), 1);
        c.due("more(5, 3): JOB 0 once more", y.more(5, 3), 1);
        c.due("more(1, 2)", y.more(1, 2), 0);
        c.due("more(2, 1)", y.more(2, 1), 1);
        x.joins(1, 1);
        x.undo();
        x.joins(0, 1);
        c.row("not of one that is no more", new int[] {x.more(2, 7), x.more(7, 2), x.more(3, 7)}, 1, 0, 3);
    }

    @Edge(of = "29", says = "-2 likewise")
    static void p29_minus2Likewise(Check c) {
        Missing.versions(c, "more(v, 0)", (x, v) -> x.more(v, 0));
        Missing.versions(c, "more(0, v)", (x, v) -> x.more(0, v));
        Missing.versions(c, "more(v, v)", (x, v) -> x.more(v, v));
    }

    @Edge(of = "30", says = "1 if a VERSION was made of another one")
    static void p30_madeOfAnotherOne(Check c) {
        HeapVersions x = c.told(PLAN, 9);
        c.due("from(1, 0)", x.from(1, 0), 1);
        c.due("from(5, 2): the first of a join", x.from(5, 2), 1);
        c.due("from(5, 1): the second of a join", x.from(5, 1), 1);
        c.due("from(7, 1)", x.from(7, 1), 1);
        HeapVersions y = c.told("plan law 0 hands 1;new;new;join 0 1;", 4);
        c.due("from(2, 1): of an empty one, too", y.from(2, 1), 1);
    }

    @Edge(of = "30", says = "(or is that)")
    static void p30_orIsThat(Check c) {
        HeapVersions x = c.told(PLAN, 9);
        for (int v = 0; v < 8; v++) {
            c.due("from(" + v + ", " + v + ")", x.from(v, v), 1);
        }
    }

    @Edge(of = "30", says = ", over others, too")
    static void p30_overOthersToo(Check c) {
        HeapVersions x = c.told(PLAN, 9);
        c.due("from(3, 0)", x.from(3, 0), 1);
        c.due("from(6, 0)", x.from(6, 0), 1);
        c.due("from(6, 1)", x.from(6, 1), 1);
        HeapVersions y = c.told("plan law 0 hands 1;new;new;join 0 1;" + "join 2 2;".repeat(17), 21);
        for (int v = 20; v < 30; v++) {
            y.joins(v - 1, v - 1);
        }
        c.due("from(29, 0): over all acts", y.from(29, 0), 1);
        c.due("from(29, 19)", y.from(29, 19), 1);
        c.due("from(29, 28)", y.from(29, 28), 1);
        c.due("from(29, 18)", y.from(29, 18), 0);
    }

    @Edge(of = "30", says = ", else 0")
    static void p30_else0(Check c) {
        HeapVersions x = c.told(PLAN, 9);
        c.due("from(0, 1): not the other way", x.from(0, 1), 0);
        c.due("from(3, 4)", x.from(3, 4), 0);
        c.due("from(5, 3)", x.from(5, 3), 0);
        c.due("from(7, 6)", x.from(7, 6), 0);
        c.row("from(6, 3), from(6, 4): lesser numbers are not enough", new int[] {x.from(6, 3), x.from(6, 4)}, 0, 0);
        c.due("from(0, 4): the same JOBS are not enough", x.from(0, 4), 0);
        // a VERSION that is no more leaves no trace to the one in its place
        x.takes(3);
        x.undo();
        x.takes(1);
        c.due("from(8, 3)", x.from(8, 3), 0);
    }

    @Edge(of = "30", says = "-2 likewise")
    static void p30_minus2Likewise(Check c) {
        Missing.versions(c, "from(v, 0)", (x, v) -> x.from(v, 0));
        Missing.versions(c, "from(0, v)", (x, v) -> x.from(0, v));
        Missing.versions(c, "from(v, v)", (x, v) -> x.from(v, v));
    }

    @Edge(of = "31", says = "How many VERSIONS there are of which it was made so (not itself)")
    static void p31_howManyNotItself(Check c) {
        HeapVersions x = c.told(PLAN, 9);
        int[] due = {0, 1, 2, 3, 0, 3, 4, 2};
        for (int v = 0; v < 8; v++) {
            c.due("roots(" + v + ")", x.roots(v), due[v]);
        }
        c.due("each once, of a join of one", x.roots(x.joins(2, 2)), 3);
        HeapVersions y = c.told("plan law 0 hands 1;new;" + "join 0 0;".repeat(19), 21);
        for (int v = 20; v < 29; v++) {
            y.joins(v - 1, v - 2);
        }
        y.joins(28, 1);
        // 0, 1 and 18 to 28
        c.due("roots(29)", y.roots(29), 13);
        HeapVersions z = c.told("plan law 0 hands 1;new;", 2);
        for (int v = 1; v < 30; v++) {
            z.joins(v - 1, v - 1);
        }
        c.due("roots(29) of all", z.roots(29), 29);
    }

    @Edge(of = "31", says = "-2: there is no such VERSION")
    static void p31_minus2ThereIsNoSuchVersion(Check c) {
        Missing.versions(c, "roots", HeapVersions::roots);
    }

    // ---- Terms III, promises 32 and 33

    @Edge(of = "III", says = "A put that puts nothing: the VERSION that it made is that of which it was made")
    static void tIII_theVersionIsThatOfWhichItWasMade(Check c) {
        HeapVersions x = c.told(PLAN, 9);
        c.row("without its own put", new int[] {x.without(1, 1), x.without(2, 2), x.without(3, 3)}, -1, 0, 0);
        c.row("left", new int[] {x.left(1, 1), x.left(2, 2), x.left(3, 3)}, 0, 1, 2);
    }

    @Edge(of = "III", says = "all VERSIONS behind it are made as told")
    static void tIII_allBehindItAreMadeAsTold(Check c) {
        // 1 {0}, 2 {0 1}, 3 {0 1} and {0}, 4 {0 1 2 0}: the take of 4 takes another JOB then
        HeapVersions x = c.told("plan law 0 hands 1;new;put 0 5 for 1;put 1 7 for 1;join 2 1;put 3 3 for 1;take 4;take 5;", 8);
        c.row("without the put of VERSION 4", new int[] {x.without(4, 4), x.without(5, 4), x.without(6, 4)}, 0, 0, 1);
        c.row("left", new int[] {x.left(3, 4), x.left(4, 4), x.left(5, 4), x.left(6, 4)}, 3, 3, 2, 1);
        c.row("without that of VERSION 1", new int[] {x.without(3, 1), x.without(5, 1), x.without(6, 1)}, 1, 1, -1);
        c.row("left", new int[] {x.left(2, 1), x.left(3, 1), x.left(4, 1), x.left(5, 1), x.left(6, 1)}, 1, 1, 2, 1, 0);
        c.row("VERSIONS ahead of it stay", new int[] {x.without(1, 4), x.left(1, 4), x.without(0, 4), x.left(0, 4)}, 0, 1, -1, 0);
        c.row("so do those of others", new int[] {x.without(1, 2), x.left(1, 2)}, 0, 1);
        x.joins(6, 1);
        c.row("of acts, too", new int[] {x.without(7, 1), x.left(7, 1), x.left(7, 4)}, -1, 0, 2);
    }

    @Edge(of = "III", says = "(take of an empty one: an empty one)")
    static void tIII_takeOfAnEmptyOneIsAnEmptyOne(Check c) {
        HeapVersions x = c.told("plan law 0 hands 1;new;put 0 5 for 1;take 1;put 2 6 for 1;put 1 7 for 1;take 4;take 5;"
                + "put 6 8 for 1;", 9);
        c.row("left without VERSION 1", new int[] {x.left(1, 1), x.left(2, 1), x.left(3, 1)}, 0, 0, 1);
        // 4 has JOB 2 alone then, 5 none, and a take of none is none: 7 has JOB 3
        c.row("left", new int[] {x.left(4, 1), x.left(5, 1), x.left(6, 1), x.left(7, 1)}, 1, 0, 0, 1);
        c.row("without", new int[] {x.without(2, 1), x.without(6, 1), x.without(7, 1)}, -1, -1, 3);
    }

    @Edge(of = "III", says = ", JOBS keep their numbers")
    static void tIII_jobsKeepTheirNumbers(Check c) {
        HeapVersions x = c.told("plan law 0 hands 1;new;put 0 5 for 1;put 1 5 for 1;put 2 5 for 1;take 3;", 6);
        c.row("without VERSION 1", new int[] {x.without(2, 1), x.without(3, 1), x.without(4, 1)}, 1, 1, 2);
        c.row("without VERSION 2", new int[] {x.without(3, 2), x.without(4, 2)}, 0, 2);
        c.row("nothing has changed", new int[] {x.count(3), x.job(1, 0), x.least(4), x.size(4)}, 3, 5, 1, 2);
    }

    @Edge(of = "32", says = "The least JOB of a VERSION, had the put that made another one put nothing (III)")
    static void p32_theLeastJobWithoutAPut(Check c) {
        HeapVersions x = c.told(PLAN, 9);
        int[] without3 = {-1, 0, 0, 0, -1, 0, 0, -1};
        int[] without1 = {-1, -1, 1, 2, -1, 1, -1, -1};
        for (int v = 0; v < 8; v++) {
            c.due("without(" + v + ", 3)", x.without(v, 3), without3[v]);
            c.due("without(" + v + ", 1)", x.without(v, 1), without1[v]);
        }
        c.due("the act puts(3, 1, 1)", x.puts(3, 1, 1), 8);
        c.due("without a put of an act", x.without(8, 8), 2);
        c.due("without, of one ahead of it", x.without(3, 8), 2);
    }

    @Edge(of = "32", says = "NONE: none")
    static void p32_noneNone(Check c) {
        HeapVersions x = c.told(PLAN, 9);
        c.due("without(0, 1): empty as it is", x.without(0, 1), -1);
        c.due("without(1, 1): empty then", x.without(1, 1), -1);
        c.due("without(7, 1): a take of none", x.without(7, 1), -1);
        c.due("without(4, 3)", x.without(4, 3), -1);
    }

    @Edge(of = "32", says = "-2: there are none such")
    static void p32_minus2ThereAreNoneSuch(Check c) {
        Missing.none(c, "without(v, v) of a new object", (x, v) -> x.without(v, v), new HeapVersions(), 0, 1);
        HeapVersions x = c.told(PLAN, 9);
        Missing.none(c, "without(v, 1)", (y, v) -> y.without(v, 1), x, 8, 9, 29, 30);
        Missing.none(c, "without(1, v)", (y, v) -> y.without(1, v), x, 8, 9, 29, 30);
        x.puts(0, 1, 1);
        Missing.some(c, "without(8, v)", (y, v) -> y.without(8, v), x, 1, 2, 3, 8);
        x.undo();
        Missing.none(c, "without(1, v) behind undo", (y, v) -> y.without(1, v), x, 8);
        Missing.none(c, "without(v, 1) behind undo", (y, v) -> y.without(v, 1), x, 8);
    }

    @Edge(of = "32", says = ", the other one was not made by a put")
    static void p32_minus2TheOtherOneWasNotMadeByAPut(Check c) {
        HeapVersions x = c.told(PLAN, 9);
        for (int v : new int[] {0, 4, 5, 6, 7}) {
            c.due("without(1, " + v + ")", x.without(1, v), -2);
        }
        c.due("joins", x.joins(1, 1), 8);
        c.due("takes", x.takes(1), 9);
        c.due("without(1, 8)", x.without(1, 8), -2);
        c.due("without(1, 9)", x.without(1, 9), -2);
    }

    @Edge(of = "33", says = "How many JOBS it would have then")
    static void p33_howManyJobsItWouldHaveThen(Check c) {
        HeapVersions x = c.told(PLAN, 9);
        int[] without1 = {0, 0, 1, 2, 0, 1, 0, 0};
        for (int v = 0; v < 8; v++) {
            c.due("left(" + v + ", 1)", x.left(v, 1), without1[v]);
        }
        HeapVersions y = c.told(FULL, 8);
        c.due("left(6, 1): all of them are of that put", y.left(6, 1), 0);
        c.due("takes(6)", y.takes(6), 7);
        c.due("puts(7, 1, 1)", y.puts(7, 1, 1), 8);
        c.due("left(8, 8)", y.left(8, 8), 23);
        c.due("left(8, 1)", y.left(8, 1), 1);
    }

    @Edge(of = "33", says = "-2 likewise")
    static void p33_minus2Likewise(Check c) {
        Missing.none(c, "left(v, v) of a new object", (x, v) -> x.left(v, v), new HeapVersions(), 0, 1);
        HeapVersions x = c.told(PLAN, 9);
        Missing.none(c, "left(v, 1)", (y, v) -> y.left(v, 1), x, 8, 9, 29, 30);
        Missing.none(c, "left(1, v)", (y, v) -> y.left(1, v), x, 8, 9, 29, 30);
        for (int v : new int[] {0, 4, 5, 6, 7}) {
            c.due("left(1, " + v + "): not made by a put", x.left(1, v), -2);
        }
        x.puts(0, 1, 1);
        Missing.some(c, "left(8, v)", (y, v) -> y.left(8, v), x, 1, 2, 3, 8);
        x.undo();
        Missing.none(c, "left(1, v) behind undo", (y, v) -> y.left(1, v), x, 8);
    }
}

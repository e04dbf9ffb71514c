/** Promises 38 to 42: acts, refused and taken back. */
final class ActEdges {
    private static final int MOST = Integer.MAX_VALUE;
    private static final int LEAST = Integer.MIN_VALUE;
    /** VERSIONS 0 to 6 have 0, 1, 2, 4, 8, 16, 24 times JOB 0. */
    private static final String FULL = "plan law 0 hands 1;new;put 0 5 for 1;join 1 1;join 2 2;join 3 3;join 4 4;join 5 4;";

    private ActEdges() {
    }

    /** FULL with as many acts as there can be: VERSIONS 7 to 29 have JOB 0 alone. */
    private static HeapVersions thirty(Check c) {
        HeapVersions x = c.told(FULL, 8);
        for (int v = 7; v < 30; v++) {
            c.due("joins(0, 1)", x.joins(0, 1), v);
        }
        return x;
    }

    /** A call that is refused leaves all as it is. */
    private static void refused(Check c, HeapVersions x, String call, Missing.Call act, int due) {
        int[] counts = Check.counts(x);
        int links = x.all();
        int drain = x.drain(6);
        c.due(call, act.of(x, 0), due);
        c.row("counts behind " + call, Check.counts(x), counts);
        c.due("all() behind " + call, x.all(), links);
        c.due("drain(6) behind " + call, x.drain(6), drain);
    }

    // ---- what it is

    @Edge(of = "0", says = "An object is used for at most 512 calls after it has been made; what later calls answer is free.")
    static void p00_512CallsAreAnsweredAsDue(Check c) {
        int[] links = new int[23];
        int drain = 0;
        HeapVersions fresh = c.told(FULL, 8);
        for (int i = 0; i < 23; i++) {
            links[i] = fresh.links(fresh.takes(6 + i));
            drain += links[i];
        }
        int told = Check.fives(FULL.getBytes()).length + 3;
        c.due("calls to tell the PLAN", told, 8);
        HeapVersions drained = c.told(FULL, 8);
        for (int call = told + 1; call <= 512; call++) {
            c.due("call " + call + ", drain(6)", drained.drain(6), drain);
        }
        HeapVersions undone = c.told(FULL, 8);
        for (int call = told + 2; call <= 510; call += 2) {
            c.due("call " + (call - 1) + ", takes(6)", undone.takes(6), 7);
            c.due("call " + call + ", undo()", undone.undo(), 0);
        }
        c.due("call 511, takes(6)", undone.takes(6), 7);
        c.due("call 512, links(7)", undone.links(7), links[0]);
        HeapVersions anew = c.told(FULL, 8);
        for (int call = told; call + 24 < 512; call += 24) {
            takeAll(c, anew);
            c.due("anew()", anew.anew(), 23);
        }
        takeAll(c, anew);
        c.due("call 512, drain(6) of 30 VERSIONS", anew.drain(6), drain);
    }

    /** 23 acts, the last of which leaves one JOB. */
    private static void takeAll(Check c, HeapVersions x) {
        for (int v = 7; v < 30; v++) {
            c.due("takes(" + (v - 1) + ")", x.takes(v - 1), v);
        }
    }

    // ---- promise 38

    @Edge(of = "38", says = "A VERSION is made by putting a JOB of a KEY (0 .. 999) and a TIME (1 .. 99) to one: its number")
    static void p38_aVersionIsMadeItsNumber(Check c) {
        HeapVersions x = c.told(FULL, 8);
        c.due("puts(0, 0, 1)", x.puts(0, 0, 1), 7);
        c.due("puts(7, 999, 99)", x.puts(7, 999, 99), 8);
        c.row("KEYS and TIMES", new int[] {x.job(1, 0), x.job(1, 1), x.job(2, 0), x.job(2, 1)}, 0, 1, 999, 99);
        c.row("JOBS of the new one", new int[] {x.size(8), x.place(8, 0), x.place(8, 1)}, 2, 1, 2);
        c.row("how it was made", new int[] {x.version(8, 0), x.version(8, 1), x.version(8, 2), x.version(8, 3)}, 1, 7, -1, 2);
        c.due("that of which it was made stays", x.size(7), 1);
        c.due("to 23 JOBS", x.puts(x.takes(6), 5, 5), 10);
        c.due("size(10)", x.size(10), 24);
    }

    @Edge(of = "38", says = "-2: there are none such")
    static void p38_minus2ThereAreNoneSuch(Check c) {
        c.due("a new object", new HeapVersions().puts(0, 5, 5), -2);
        c.due("plan alone", c.told("plan law 0 hands 1;", 1).puts(0, 5, 5), -2);
        HeapVersions x = c.told(FULL, 8);
        for (int v : new int[] {-1, 7, 29, 30, MOST, LEAST}) {
            refused(c, x, "puts(" + v + ", 5, 5)", (y, n) -> y.puts(v, 5, 5), -2);
        }
        for (int key : new int[] {-1, 1000, MOST, LEAST}) {
            refused(c, x, "puts(0, " + key + ", 5)", (y, n) -> y.puts(0, key, 5), -2);
        }
        for (int time : new int[] {0, -1, 100, MOST, LEAST}) {
            refused(c, x, "puts(0, 5, " + time + ")", (y, n) -> y.puts(0, 5, time), -2);
        }
        c.due("a wrong KEY ahead of -3", x.puts(6, 1000, 5), -2);
        c.due("a wrong TIME ahead of -3", x.puts(6, 5, 0), -2);
        HeapVersions full = thirty(c);
        c.due("a wrong VERSION ahead of -5", full.puts(30, 5, 5), -2);
        c.due("a wrong KEY ahead of -5", full.puts(0, -1, 5), -2);
        c.due("a wrong TIME ahead of -5", full.puts(0, 5, 100), -2);
    }

    @Edge(of = "38", says = "-5: there are 30 VERSIONS")
    static void p38_minus5ThereAre30Versions(Check c) {
        HeapVersions x = thirty(c);
        refused(c, x, "puts(0, 5, 5)", (y, n) -> y.puts(0, 5, 5), -5);
        refused(c, x, "puts(6, 5, 5), ahead of -3", (y, n) -> y.puts(6, 5, 5), -5);
        c.due("undo()", x.undo(), 22);
        c.due("the thirtieth", x.puts(0, 5, 5), 29);
        c.due("no 31st", x.puts(0, 5, 5), -5);
        HeapVersions y = c.told("plan law 1 hands 1;" + "new;".repeat(20), 21);
        for (int v = 20; v < 30; v++) {
            c.due("puts behind 20 told", y.puts(v - 1, 5, 5), v);
        }
        c.due("puts behind 30", y.puts(29, 5, 5), -5);
    }

    @Edge(of = "38", says = "-3: it would have more than 24 JOBS")
    static void p38_minus3ItWouldHaveMoreThan24Jobs(Check c) {
        HeapVersions x = c.told(FULL, 8);
        refused(c, x, "puts(6, 5, 5)", (y, n) -> y.puts(6, 5, 5), -3);
        c.due("takes(6)", x.takes(6), 7);
        c.due("puts to 23", x.puts(7, 5, 5), 8);
        refused(c, x, "puts(8, 5, 5)", (y, n) -> y.puts(8, 5, 5), -3);
    }

    // ---- promise 39

    @Edge(of = "39", says = "A VERSION is made by joining two: its number")
    static void p39_aVersionIsMadeItsNumber(Check c) {
        HeapVersions x = c.told(FULL, 8);
        c.due("joins(5, 4)", x.joins(5, 4), 7);
        c.due("24 JOBS", x.size(7), 24);
        c.row("how it was made", new int[] {x.version(7, 0), x.version(7, 1), x.version(7, 2), x.version(7, 3)}, 2, 5, 4, -1);
        c.due("of two empty ones", x.size(x.joins(0, 0)), 0);
        c.due("of 24 and none", x.size(x.joins(6, 0)), 24);
        c.due("of none and 24", x.size(x.joins(0, 6)), 24);
        c.due("no JOB is made", x.count(3), 1);
        c.due("of itself", x.joins(1, 1), 11);
    }

    @Edge(of = "39", says = "-2: there are none such")
    static void p39_minus2ThereAreNoneSuch(Check c) {
        c.due("a new object", new HeapVersions().joins(0, 0), -2);
        c.due("plan alone", c.told("plan law 0 hands 1;", 1).joins(0, 0), -2);
        HeapVersions x = c.told(FULL, 8);
        for (int v : new int[] {-1, 7, 29, 30, MOST, LEAST}) {
            refused(c, x, "joins(" + v + ", 0)", (y, n) -> y.joins(v, 0), -2);
            refused(c, x, "joins(0, " + v + ")", (y, n) -> y.joins(0, v), -2);
            refused(c, x, "joins(6, " + v + "), ahead of -3", (y, n) -> y.joins(6, v), -2);
        }
        HeapVersions full = thirty(c);
        c.due("the first, ahead of -5", full.joins(30, 0), -2);
        c.due("the second, ahead of -5", full.joins(0, 30), -2);
    }

    @Edge(of = "39", says = "-5, -3 likewise")
    static void p39_minus5AndMinus3Likewise(Check c) {
        HeapVersions x = thirty(c);
        refused(c, x, "joins(0, 0) of 30", (y, n) -> y.joins(0, 0), -5);
        refused(c, x, "joins(6, 6) of 30, ahead of -3", (y, n) -> y.joins(6, 6), -5);
        c.due("undo()", x.undo(), 22);
        refused(c, x, "joins(6, 1)", (y, n) -> y.joins(6, 1), -3);
        refused(c, x, "joins(1, 6)", (y, n) -> y.joins(1, 6), -3);
        refused(c, x, "joins(5, 5)", (y, n) -> y.joins(5, 5), -3);
        c.due("the thirtieth, of 24 JOBS", x.joins(4, 5), 29);
        c.due("size(29)", x.size(29), 24);
        c.due("no 31st", x.joins(4, 5), -5);
    }

    // ---- promise 40

    @Edge(of = "40", says = "A VERSION is made by taking the least JOB of one: its number")
    static void p40_aVersionIsMadeItsNumber(Check c) {
        HeapVersions x = c.told("plan law 0 hands 1;new;put 0 5 for 1;put 1 7 for 1;put 2 3 for 1;", 5);
        c.due("takes(3)", x.takes(3), 4);
        c.row("how it was made", new int[] {x.version(4, 0), x.version(4, 1), x.version(4, 2), x.version(4, 3)}, 3, 3, -1, 2);
        c.row("what is left", new int[] {x.size(4), x.place(4, 0), x.place(4, 1)}, 2, 0, 1);
        c.due("that of which it was made stays", x.size(3), 3);
        c.due("takes(4)", x.takes(4), 5);
        c.due("takes(5): the last JOB", x.takes(5), 6);
        c.row("it is empty", new int[] {x.size(6), x.least(6), x.parts(6), x.version(6, 3)}, 0, -1, 0, 1);
        c.due("JOBS that were taken are there", x.count(3), 3);
    }

    @Edge(of = "40", says = "-2: there is no such VERSION")
    static void p40_minus2ThereIsNoSuchVersion(Check c) {
        c.due("a new object", new HeapVersions().takes(0), -2);
        c.due("plan alone", c.told("plan law 0 hands 1;", 1).takes(0), -2);
        HeapVersions x = c.told(FULL, 8);
        for (int v : new int[] {-1, 7, 29, 30, MOST, LEAST}) {
            refused(c, x, "takes(" + v + ")", (y, n) -> y.takes(v), -2);
        }
        c.due("ahead of -5", thirty(c).takes(30), -2);
    }

    @Edge(of = "40", says = "-5 likewise")
    static void p40_minus5Likewise(Check c) {
        HeapVersions x = thirty(c);
        refused(c, x, "takes(6) of 30", (y, n) -> y.takes(6), -5);
        refused(c, x, "takes(0) of 30, ahead of -3", (y, n) -> y.takes(0), -5);
        c.due("undo()", x.undo(), 22);
        c.due("the thirtieth", x.takes(6), 29);
        c.due("no 31st", x.takes(6), -5);
    }

    @Edge(of = "40", says = "-3: it is empty")
    static void p40_minus3ItIsEmpty(Check c) {
        HeapVersions x = c.told(FULL, 8);
        refused(c, x, "takes(0)", (y, n) -> y.takes(0), -3);
        c.due("takes(1)", x.takes(1), 7);
        refused(c, x, "takes(7)", (y, n) -> y.takes(7), -3);
        c.due("joins(0, 7)", x.joins(0, 7), 8);
        refused(c, x, "takes(8)", (y, n) -> y.takes(8), -3);
    }

    // ---- promises 41 and 42

    @Edge(of = "41", says = "The VERSION of the latest act")
    static void p41_theVersionOfTheLatestActIsNoMore(Check c) {
        HeapVersions x = c.told(FULL, 8);
        int links = x.all();
        x.takes(6);
        int more = x.all();
        x.takes(7);
        c.due("undo()", x.undo(), 1);
        c.row("the latest is no more", new int[] {x.size(8), x.size(7), x.count(2), x.all()}, -2, 23, 8, more);
        c.due("undo()", x.undo(), 0);
        c.row("nor is the one ahead of it", new int[] {x.size(7), x.size(6), x.count(2), x.all()}, -2, 24, 7, links);
        c.due("its number is given again", x.takes(1), 7);
        c.row("to another one", new int[] {x.size(7), x.version(7, 1), x.parts(7), x.links(7)}, 0, 1, 0, 0);
        // by LAW 0, VERSION 8 of eight JOBS has SINGLES; by turns its take and a put make what stands in the same room
        HeapVersions y = c.told("plan law 0 hands 1;new;put 0 1 for 1;put 1 2 for 1;put 2 3 for 1;put 3 4 for 1;put 4 5 for 1;"
                + "put 5 6 for 1;put 6 7 for 1;put 7 8 for 1;put 0 99 for 1;put 9 98 for 1;put 10 97 for 1;", 13);
        for (int[] due : new int[][] {{8, 7, 11, 3, 2}, {1, 2, 3, 2, 2}, {11, 4, 7, 2, 4}, {1, 2, 3, 2, 2}, {8, 7, 11, 3, 2}}) {
            int v = due[0] == 8 ? y.takes(8) : y.puts(due[0], 0, 1);
            c.row("VERSION 12 of " + due[0], new int[] {v, y.size(v), y.parts(v), y.own(v), y.depth(v)}, 12, due[1], due[2], due[3],
                    due[4]);
            c.due("undo()", y.undo(), 0);
        }
    }

    @Edge(of = "41", says = "(and its JOB, of a put)")
    static void p41_andItsJobOfAPut(Check c) {
        HeapVersions x = c.told(FULL, 8);
        x.puts(0, 7, 3);
        x.takes(7);
        x.joins(7, 7);
        c.due("undo() of a join", x.undo(), 2);
        c.due("its JOBS stay", x.count(3), 2);
        c.due("undo() of a take", x.undo(), 1);
        c.due("its JOB stays", x.job(1, 0), 7);
        c.due("undo() of a put", x.undo(), 0);
        c.row("its JOB is no more", new int[] {x.count(3), x.job(1, 0), x.times(0, 1)}, 1, -2, -2);
        x.puts(0, 8, 4);
        c.row("its number is given again", new int[] {x.version(7, 3), x.job(1, 0), x.job(1, 1), x.least(7)}, 1, 8, 4, 1);
        x.puts(7, 9, 5);
        x.puts(8, 9, 6);
        for (int jobs = 3; jobs >= 1; jobs--) {
            x.undo();
            c.due("one JOB less each time", x.count(3), jobs);
        }
    }

    @Edge(of = "41", says = "is no more: how many acts there are")
    static void p41_howManyActsThereAre(Check c) {
        HeapVersions x = thirty(c);
        for (int acts = 22; acts >= 0; acts--) {
            c.due("undo()", x.undo(), acts);
            c.due("count(5)", x.count(5), acts);
        }
    }

    @Edge(of = "41", says = "-2: there is no PLAN")
    static void p41_minus2ThereIsNoPlan(Check c) {
        HeapVersions x = new HeapVersions();
        c.due("a new object", x.undo(), -2);
        c.due("plan() of nothing", x.plan(), 0);
        c.due("undo()", x.undo(), -2);
        Check.tell(x, "x");
        c.due("plan() with a FAULT", x.plan(), -4);
        c.due("undo()", x.undo(), -2);
        HeapVersions y = c.told(FULL, 8);
        y.takes(1);
        y.plan();
        c.due("undo() behind a PLAN with an act", y.undo(), -2);
    }

    @Edge(of = "41", says = "-5: there is none")
    static void p41_minus5ThereIsNone(Check c) {
        c.due("plan alone", c.told("plan law 0 hands 1;", 1).undo(), -5);
        HeapVersions x = c.told(FULL, 8);
        refused(c, x, "undo()", (y, n) -> y.undo(), -5);
        x.takes(6);
        c.due("undo()", x.undo(), 0);
        refused(c, x, "undo() once more", (y, n) -> y.undo(), -5);
        x.takes(6);
        x.anew();
        refused(c, x, "undo() behind anew()", (y, n) -> y.undo(), -5);
    }

    @Edge(of = "42", says = "Those of all acts are")
    static void p42_thoseOfAllActsAreNoMore(Check c) {
        HeapVersions x = c.told(FULL, 8);
        int links = x.all();
        x.puts(0, 7, 3);
        x.puts(7, 6, 3);
        x.takes(6);
        x.joins(7, 8);
        c.due("anew()", x.anew(), 4);
        c.row("count", Check.counts(x), 0, 1, 7, 1, 7, 0, 8, 0);
        c.row("what was told stays", new int[] {x.size(6), x.size(7), x.job(0, 0), x.job(1, 0), x.all()}, 24, -2, 5, -2, links);
        c.due("numbers are given again", x.puts(0, 9, 9), 7);
        c.row("of JOBS, too", new int[] {x.version(7, 3), x.job(1, 0), x.size(7), x.parts(7)}, 1, 9, 1, 1);
    }

    @Edge(of = "42", says = ": how many there were")
    static void p42_howManyThereWere(Check c) {
        HeapVersions x = thirty(c);
        c.due("anew()", x.anew(), 23);
        c.due("anew() once more: none", x.anew(), 0);
        x.takes(1);
        x.takes(1);
        x.undo();
        c.due("anew(): not what was taken back", x.anew(), 1);
        c.due("plan alone", c.told("plan law 0 hands 1;", 1).anew(), 0);
    }

    @Edge(of = "42", says = "-2 likewise")
    static void p42_minus2Likewise(Check c) {
        HeapVersions x = new HeapVersions();
        c.due("a new object", x.anew(), -2);
        c.due("plan() of nothing", x.plan(), 0);
        c.due("anew()", x.anew(), -2);
        HeapVersions y = c.told(FULL, 8);
        y.takes(1);
        y.plan();
        c.due("anew() behind a PLAN with an act", y.anew(), -2);
    }
}

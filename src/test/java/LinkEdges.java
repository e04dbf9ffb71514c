/** Promises 22 to 27: how many LINKS were made, by which LAW, and to take all. */
final class LinkEdges {
    private static final int MOST = Integer.MAX_VALUE;
    private static final int LEAST = Integer.MIN_VALUE;
    /** JOBS 0 to 7 in order: VERSION n has the first n of them; VERSION 9 all but the first. */
    private static final String UP = "new;put 0 1 for 1;put 1 2 for 1;put 2 3 for 1;put 3 4 for 1;put 4 5 for 1;put 5 6 for 1;"
            + "put 6 7 for 1;put 7 8 for 1;take 8;";
    private static final int[] LINKS0 = {0, 0, 0, 0, 1, 0, 0, 1, 1, 2};
    private static final int[] LINKS1 = {0, 0, 0, 1, 0, 2, 0, 1, 0, 2};
    /** By LAW 1 the put of VERSION 3 LINKS, by LAW 0 the take. */
    private static final String EVEN = "new;put 0 5 for 1;put 1 6 for 1;put 2 7 for 1;put 3 1 for 1;take 4;";

    private LinkEdges() {
    }

    private static HeapVersions up(Check c, int law) {
        return c.told("plan law " + law + " hands 1;" + UP, 11);
    }

    /** LINKS of takes, one by one, till all is taken: acts that are taken back. */
    private static int[] taken(HeapVersions x, int version) {
        int[] links = new int[x.size(version)];
        int v = version;
        for (int i = 0; i < links.length; i++) {
            v = x.takes(v);
            links[i] = x.links(v);
        }
        x.anew();
        return links;
    }

    @Edge(of = "22", says = "How many LINKS were made to make a VERSION")
    static void p22_howManyLinksToMakeAVersion(Check c) {
        HeapVersions zero = up(c, 0);
        HeapVersions one = up(c, 1);
        for (int v = 0; v < 10; v++) {
            c.due("links(" + v + ") by LAW 0", zero.links(v), LINKS0[v]);
            c.due("links(" + v + ") by LAW 1", one.links(v), LINKS1[v]);
        }
        c.due("not those of the VERSIONS of which: a join with none", zero.links(zero.joins(8, 0)), 0);
        c.due("of an act", zero.links(zero.takes(8)), 2);
        // what is made to answer is of no VERSION
        zero.drain(8);
        zero.dearest(8);
        c.row("links behind drain()", new int[] {zero.links(8), zero.links(9), zero.links(10), zero.links(11)}, 1, 2, 0, 2);
    }

    @Edge(of = "22", says = "-2: there is no such VERSION")
    static void p22_minus2ThereIsNoSuchVersion(Check c) {
        Missing.versions(c, "links", HeapVersions::links);
    }

    @Edge(of = "23", says = "How many for all VERSIONS together")
    static void p23_howManyForAllTogether(Check c) {
        HeapVersions x = up(c, 0);
        c.due("all()", x.all(), 5);
        x.takes(8);
        c.due("all() with an act", x.all(), 7);
        x.undo();
        c.due("all() without", x.all(), 5);
        x.takes(8);
        x.takes(8);
        x.anew();
        c.due("all() behind anew()", x.all(), 5);
        x.drain(8);
        c.due("all() behind drain()", x.all(), 5);
        c.due("by LAW 1", up(c, 1).all(), 6);
        c.due("no VERSIONS", c.told("plan law 0 hands 1;", 1).all(), 0);
        c.due("no LINKS", c.told("plan law 0 hands 1;new;", 2).all(), 0);
    }

    @Edge(of = "23", says = "-2: there is no PLAN")
    static void p23_minus2ThereIsNoPlan(Check c) {
        HeapVersions x = new HeapVersions();
        c.due("a new object", x.all(), -2);
        Check.tell(x, "x");
        c.due("plan() with a FAULT", x.plan(), -4);
        c.due("all()", x.all(), -2);
        HeapVersions y = up(c, 0);
        c.due("plan() of nothing", y.plan(), 0);
        c.due("all() behind a PLAN", y.all(), -2);
    }

    @Edge(of = "24", says = "How many would be made to make a VERSION, were LAW (0, 1) that all along")
    static void p24_byALawAllAlong(Check c) {
        for (int law = 0; law < 2; law++) {
            HeapVersions x = up(c, law);
            for (int v = 0; v < 10; v++) {
                c.due("by(0, " + v + ")", x.by(0, v), LINKS0[v]);
                c.due("by(1, " + v + ")", x.by(1, v), LINKS1[v]);
            }
            c.due("takes(9)", x.takes(9), 10);
            // by LAW 0 the only TREE goes out, with a SINGLE; by LAW 1 one of RANK 1, and that of RANK 2 is left
            c.row("of an act", new int[] {x.by(0, 10), x.by(1, 10)}, 2, 0);
            c.due("takes(8)", x.takes(8), 11);
            c.row("of another act", new int[] {x.by(0, 11), x.by(1, 11)}, 2, 2);
            c.due("joins(4, 2)", x.joins(4, 2), 12);
            c.row("of a join", new int[] {x.by(0, 12), x.by(1, 12)}, 0, 2);
        }
    }

    @Edge(of = "24", says = "-2: there are none such")
    static void p24_minus2ThereAreNoneSuch(Check c) {
        Missing.versions(c, "by(0, v)", (x, v) -> x.by(0, v));
        Missing.versions(c, "by(1, v)", (x, v) -> x.by(1, v));
        HeapVersions x = up(c, 1);
        for (int law : new int[] {-1, 2, 3, MOST, LEAST}) {
            c.due("by(" + law + ", 0)", x.by(law, 0), -2);
            c.due("by(" + law + ", 9)", x.by(law, 9), -2);
        }
    }

    @Edge(of = "25", says = "The LAW by which fewest would be made for all VERSIONS")
    static void p25_theLawByWhichFewest(Check c) {
        for (int law = 0; law < 2; law++) {
            c.due("5 by LAW 0, 6 by LAW 1", up(c, law).lean(), 0);
            HeapVersions x = c.told("plan law " + law + " hands 1;" + EVEN, 7);
            c.due("takes(4)", x.takes(4), 6);
            c.row("of the act", new int[] {x.by(0, 6), x.by(1, 6)}, 1, 0);
            c.due("2 by LAW 0, 1 by LAW 1: with an act", x.lean(), 1);
            c.due("undo()", x.undo(), 0);
            c.due("without", x.lean(), 0);
        }
    }

    @Edge(of = "25", says = ", 0 if both are as good")
    static void p25_0IfBothAreAsGood(Check c) {
        for (int law = 0; law < 2; law++) {
            HeapVersions x = c.told("plan law " + law + " hands 1;" + EVEN, 7);
            c.row("1 each", new int[] {x.by(0, 5), x.by(1, 3), x.all(), x.lean()}, 1, 1, 1, 0);
            c.due("no VERSIONS", c.told("plan law " + law + " hands 1;", 1).lean(), 0);
            c.due("no LINKS", c.told("plan law " + law + " hands 1;new;put 0 1 for 1;", 3).lean(), 0);
        }
    }

    @Edge(of = "25", says = "-2: there is no PLAN")
    static void p25_minus2ThereIsNoPlan(Check c) {
        HeapVersions x = new HeapVersions();
        c.due("a new object", x.lean(), -2);
        Check.tell(x, "x");
        c.due("plan() with a FAULT", x.plan(), -4);
        c.due("lean()", x.lean(), -2);
        HeapVersions y = up(c, 0);
        c.due("plan() of nothing", y.plan(), 0);
        c.due("lean() behind a PLAN", y.lean(), -2);
    }

    @Edge(of = "26", says = "How many LINKS it takes to take all JOBS of a VERSION, one by one, till it is empty")
    static void p26_howManyLinksToTakeAll(Check c) {
        for (int law = 0; law < 2; law++) {
            HeapVersions x = up(c, law);
            c.row("none, one JOB, two", new int[] {x.drain(0), x.drain(1), x.drain(2)}, 0, 0, 0);
            for (int v = 0; v < 10; v++) {
                int drain = x.drain(v);
                int sum = 0;
                for (int links : taken(x, v)) {
                    sum += links;
                }
                c.due("drain(" + v + ") by LAW " + law, drain, sum);
            }
            // 2, 2, 0, 1, 1 by LAW 0, and 2, 0, 2, 0, 1 by LAW 1
            c.due("drain(8)", x.drain(8), law == 0 ? 6 : 5);
            c.due("nothing is made", x.count(2), 10);
        }
        HeapVersions full = c.told("plan law 0 hands 1;new;put 0 5 for 1;join 1 1;join 2 2;join 3 3;join 4 4;join 5 4;", 8);
        int drain = full.drain(6);
        c.due("takes(6)", full.takes(6), 7);
        c.due("drain of 24: that of 23 and the first take", drain, full.drain(7) + full.links(7));
    }

    @Edge(of = "26", says = "-2: there is no such VERSION")
    static void p26_minus2ThereIsNoSuchVersion(Check c) {
        Missing.versions(c, "drain", HeapVersions::drain);
    }

    @Edge(of = "27", says = "The most of one of these")
    static void p27_theMostOfOneOfThese(Check c) {
        for (int law = 0; law < 2; law++) {
            HeapVersions x = up(c, law);
            for (int v = 0; v < 10; v++) {
                int dearest = x.dearest(v);
                int most = 0;
                for (int links : taken(x, v)) {
                    most = Math.max(most, links);
                }
                c.due("dearest(" + v + ") by LAW " + law, dearest, most);
            }
            c.due("dearest(8)", x.dearest(8), 2);
            c.due("nothing is made", x.count(2), 10);
        }
    }

    @Edge(of = "27", says = "0: it is empty")
    static void p27_0ItIsEmpty(Check c) {
        HeapVersions x = up(c, 0);
        c.due("dearest(8)", x.dearest(8), 2);
        c.due("dearest(0) behind another one", x.dearest(0), 0);
        c.due("one JOB", x.dearest(1), 0);
        c.due("taken empty", x.dearest(x.takes(1)), 0);
        c.due("joined empty", x.dearest(x.joins(0, 0)), 0);
    }

    @Edge(of = "27", says = "-2 likewise")
    static void p27_minus2Likewise(Check c) {
        Missing.versions(c, "dearest", HeapVersions::dearest);
    }
}

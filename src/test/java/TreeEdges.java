/** Promises 13 to 21: the TREES of a VERSION's QUEUE, how deep it is, its CELLS. */
final class TreeEdges {
    private static final int MOST = Integer.MAX_VALUE;
    /** JOBS 0 to 7 in order: VERSION n has the first n of them. */
    private static final String UP = "new;put 0 1 for 1;put 1 2 for 1;put 2 3 for 1;put 3 4 for 1;put 4 5 for 1;put 5 6 for 1;"
            + "put 6 7 for 1;put 7 8 for 1;";
    private static final int[] TREES = {0, 0, 1, 2, 1, 2, 3, 2, 1};

    private TreeEdges() {
    }

    private static HeapVersions up(Check c) {
        return c.told("plan law 0 hands 1;" + UP, 10);
    }

    /** What a call answers for TREE i of VERSION 6, which has three. */
    private interface OfTree {
        int of(HeapVersions x, int version, int i);
    }

    private static void noneThereAreNotSoMany(Check c, String name, OfTree call) {
        HeapVersions x = up(c);
        for (int v = 0; v < TREES.length; v++) {
            for (int i = 0; i < TREES[v]; i++) {
                c.due(name + "(" + v + ", " + i + ") is there", Math.min(call.of(x, v, i), 0), 0);
            }
            for (int i : new int[] {TREES[v], TREES[v] + 1, 64, 1000, MOST}) {
                c.due(name + "(" + v + ", " + i + ")", call.of(x, v, i), -1);
            }
        }
    }

    private static void noneAndMinus2(Check c, String name, OfTree call) {
        noneThereAreNotSoMany(c, name, call);
        Missing.versions(c, name + "(v, 0)", (x, v) -> call.of(x, v, 0));
        Missing.versions(c, name + "(v, 9)", (x, v) -> call.of(x, v, 9));
        Missing.below0(c, name + "(2, i)", (x, i) -> call.of(x, 2, i));
        c.due(name + "(0, -1) of an empty one", call.of(up(c), 0, -1), -2);
    }

    @Edge(of = "13", says = "How many TREES its QUEUE has (0: it is empty)")
    static void p13_howManyTrees(Check c) {
        HeapVersions x = up(c);
        for (int v = 0; v < TREES.length; v++) {
            c.due("trees(" + v + ")", x.trees(v), TREES[v]);
        }
        HeapVersions y = c.told("plan law 1 hands 1;new;put 0 5 for 1;put 1 4 for 1;take 1;", 5);
        c.row("none, one JOB alone, two, none", new int[] {y.trees(0), y.trees(1), y.trees(2), y.trees(3)}, 0, 0, 1, 0);
        for (int v = 4; v < 28; v++) {
            y.puts(v == 4 ? 0 : v - 1, v, 1);
        }
        c.row("24 JOBS by LAW 1: 23 are 1, 2, 4, 16", new int[] {y.size(27), y.trees(27)}, 24, 4);
    }

    @Edge(of = "13", says = "-2: there is no such VERSION")
    static void p13_minus2ThereIsNoSuchVersion(Check c) {
        Missing.versions(c, "trees", HeapVersions::trees);
    }

    @Edge(of = "14", says = "RANK of TREE i (from 0) of its QUEUE")
    static void p14_rankOfTreeI(Check c) {
        HeapVersions x = up(c);
        c.row("rank(6, i)", new int[] {x.rank(6, 0), x.rank(6, 1), x.rank(6, 2)}, 0, 0, 1);
        c.row("rank(5, i)", new int[] {x.rank(5, 0), x.rank(5, 1)}, 0, 1);
        c.due("rank(8, 0)", x.rank(8, 0), 2);
    }

    @Edge(of = "14", says = "NONE: there are not so many")
    static void p14_noneThereAreNotSoMany(Check c) {
        noneThereAreNotSoMany(c, "rank", HeapVersions::rank);
    }

    @Edge(of = "14", says = "-2: there is no such VERSION")
    static void p14_minus2ThereIsNoSuchVersion(Check c) {
        Missing.versions(c, "rank(v, 0)", (x, v) -> x.rank(v, 0));
        Missing.versions(c, "rank(v, 9)", (x, v) -> x.rank(v, 9));
    }

    @Edge(of = "14", says = ", i is below 0")
    static void p14_minus2IIsBelow0(Check c) {
        Missing.below0(c, "rank(2, i)", (x, i) -> x.rank(2, i));
        c.due("rank(0, -1) of an empty one", up(c).rank(0, -1), -2);
    }

    @Edge(of = "15", says = "How many JOBS that TREE has (all in it)")
    static void p15_howManyJobsThatTreeHas(Check c) {
        HeapVersions x = up(c);
        c.row("holds(6, i)", new int[] {x.holds(6, 0), x.holds(6, 1), x.holds(6, 2)}, 1, 1, 3);
        c.due("holds(8, 0)", x.holds(8, 0), 7);
        // its head is VERSION 8
        c.due("puts(8, 0, 1)", x.puts(8, 0, 1), 9);
        c.due("holds(9, 0): those in the head's TREES", x.holds(9, 0), 8);
        HeapVersions y = c.told("plan law 0 hands 1;new;put 0 5 for 1;join 1 1;join 2 2;join 3 3;join 4 4;join 5 4;", 8);
        int sum = 1;
        for (int i = 0; i < y.trees(6); i++) {
            sum += y.holds(6, i);
        }
        c.due("JOBS that are there several times count so", sum, 24);
    }

    @Edge(of = "15", says = "NONE, -2 likewise")
    static void p15_noneAndMinus2Likewise(Check c) {
        noneAndMinus2(c, "holds", HeapVersions::holds);
    }

    @Edge(of = "16", says = "How many SINGLES it has (itself, not its SUBTREES)")
    static void p16_howManySinglesItself(Check c) {
        HeapVersions x = up(c);
        c.row("singles(7, i)", new int[] {x.singles(7, 0), x.singles(7, 1)}, 1, 1);
        c.due("singles(8, 0): its SUBTREE of RANK 1 has another one", x.singles(8, 0), 2);
        c.row("none", new int[] {x.singles(2, 0), x.singles(6, 0), x.singles(6, 1)}, 0, 0, 0);
        c.due("puts(8, 0, 1)", x.puts(8, 0, 1), 9);
        c.due("singles(9, 0): not those in its head", x.singles(9, 0), 0);
    }

    @Edge(of = "16", says = "NONE, -2 likewise")
    static void p16_noneAndMinus2Likewise(Check c) {
        noneAndMinus2(c, "singles", HeapVersions::singles);
    }

    @Edge(of = "17", says = "The JOB of its head")
    static void p17_theJobOfItsHead(Check c) {
        HeapVersions x = up(c);
        c.row("head(6, i)", new int[] {x.head(6, 0), x.head(6, 1), x.head(6, 2)}, 5, 4, 1);
        c.due("puts(8, 0, 1)", x.puts(8, 0, 1), 9);
        c.due("head(9, 0): JOB 0", x.head(9, 0), 0);
        HeapVersions y = c.told("plan law 0 hands 1;new;put 0 998 for 1;", 3);
        for (int v = 2; v < 30; v++) {
            y.puts(v == 29 ? 1 : 0, 999, 1);
        }
        c.due("head(29, 0): the last JOB that there can be here", y.head(29, 0), 28);
    }

    @Edge(of = "17", says = "NONE, -2 likewise")
    static void p17_noneAndMinus2Likewise(Check c) {
        noneAndMinus2(c, "head", HeapVersions::head);
    }

    @Edge(of = "18", says = "How many HEAPS stand in one another in a VERSION, at most")
    static void p18_howManyHeapsStandInOneAnother(Check c) {
        HeapVersions x = c.told("plan law 0 hands 1;new;", 2);
        for (int v = 0; v < 24; v++) {
            c.due("puts", x.puts(v, 999 - v, 1), v + 1);
            c.due("depth(" + (v + 1) + ")", x.depth(v + 1), v + 1);
        }
        HeapVersions y = c.told("plan law 1 hands 1;" + UP, 10);
        c.due("depth(8): TREES in TREES are no HEAPS", y.depth(8), 2);
        // a SINGLE is deepest: VERSION 3 is put beside the LINK of JOBS 3 and 4
        HeapVersions single = c.told("plan law 0 hands 1;new;put 0 30 for 1;put 1 20 for 1;put 2 15 for 1;put 0 1 for 1;"
                + "put 4 2 for 1;put 5 3 for 1;join 6 3;", 9);
        c.row("in a SINGLE", new int[] {single.depth(6), single.singles(7, 0), single.head(7, 0), single.depth(7)}, 2, 1, 4, 4);
        // a SUBTREE's head is deepest: VERSION 3 is put first, and LINKED with that of JOB 4
        HeapVersions sub = c.told("plan law 1 hands 1;new;put 0 30 for 1;put 1 20 for 1;put 2 15 for 1;put 0 1 for 1;join 4 3;"
                + "put 5 2 for 1;", 8);
        c.row("in a SUBTREE", new int[] {sub.depth(5), sub.rank(6, 0), sub.head(6, 0), sub.depth(6)}, 4, 1, 4, 4);
        c.due("puts(4, 2, 1)", sub.puts(4, 2, 1), 7);
        c.due("joins(7, 3)", sub.joins(7, 3), 8);
        c.row("in that of the first of a LINK", new int[] {sub.depth(7), sub.rank(8, 0), sub.head(8, 0), sub.depth(8)}, 2, 1, 5, 4);
    }

    @Edge(of = "18", says = "(0: it is empty; 1: one JOB alone)")
    static void p18_0ItIsEmpty1OneJobAlone(Check c) {
        HeapVersions x = c.told("plan law 0 hands 1;new;put 0 5 for 1;put 1 6 for 1;take 2;take 3;join 1 0;", 7);
        c.row("depth", new int[] {x.depth(0), x.depth(1), x.depth(2), x.depth(3), x.depth(4), x.depth(5)}, 0, 1, 2, 1, 0, 1);
    }

    @Edge(of = "18", says = "-2: there is no such VERSION")
    static void p18_minus2ThereIsNoSuchVersion(Check c) {
        Missing.versions(c, "depth", HeapVersions::depth);
    }

    @Edge(of = "19", says = "How many CELLS a VERSION has (0: it is empty)")
    static void p19_howManyCells(Check c) {
        HeapVersions x = c.told("plan law 0 hands 1;" + UP + "take 8;take 1;", 12);
        int[] due = {0, 1, 3, 5, 6, 8, 10, 11, 12, 11, 0};
        for (int v = 0; v < due.length; v++) {
            c.due("parts(" + v + ")", x.parts(v), due[v]);
        }
        HeapVersions deep = c.told("plan law 0 hands 1;new;", 2);
        for (int v = 0; v < 24; v++) {
            deep.puts(v, 999 - v, 1);
        }
        c.due("24 HEAPS and 23 TREES", deep.parts(24), 47);
    }

    @Edge(of = "19", says = "-2 likewise")
    static void p19_minus2Likewise(Check c) {
        Missing.versions(c, "parts", HeapVersions::parts);
    }

    @Edge(of = "20", says = "How many of these are in none of the VERSIONS of which it was made")
    static void p20_howManyAreInNoneOfThose(Check c) {
        HeapVersions x = c.told("plan law 0 hands 1;" + UP + "take 8;take 1;join 4 0;join 0 4;join 1 3;join 3 1;join 1 1;", 17);
        int[] due = {0, 1, 3, 3, 3, 3, 3, 3, 3, 3, 0, 0, 0, 2, 2, 2};
        for (int v = 0; v < due.length; v++) {
            c.due("own(" + v + ")", x.own(v), due[v]);
        }
        HeapVersions y = c.told("plan law 0 hands 1;new;put 0 5 for 1;put 0 6 for 1;join 1 2;", 5);
        c.due("own(3): JOB 1's HEAP is of the second one", y.own(3), 2);
        c.due("joins(2, 1)", y.joins(2, 1), 4);
        c.due("own(4): and that of the first one", y.own(4), 2);
    }

    @Edge(of = "20", says = "-2 likewise")
    static void p20_minus2Likewise(Check c) {
        Missing.versions(c, "own", HeapVersions::own);
    }

    @Edge(of = "21", says = "How many CELLS two VERSIONS have both")
    static void p21_howManyCellsTwoHaveBoth(Check c) {
        HeapVersions x = c.told("plan law 0 hands 1;" + UP + "take 8;", 11);
        c.row("with itself", new int[] {x.shared(8, 8), x.shared(1, 1), x.shared(0, 0)}, 12, 1, 0);
        c.row("with an empty one", new int[] {x.shared(8, 0), x.shared(0, 8)}, 0, 0);
        c.row("either way", new int[] {x.shared(8, 9), x.shared(9, 8), x.shared(7, 6), x.shared(6, 7)}, 8, 8, 8, 8);
        c.row("none", new int[] {x.shared(1, 2), x.shared(2, 1)}, 0, 0);
        // neither was made of the other: both have what VERSION 4 has but for its HEAP
        x.puts(4, 9, 1);
        x.puts(4, 9, 1);
        c.due("shared(10, 11)", x.shared(10, 11), 5);
        x.joins(9, 0);
        c.due("all of them", x.shared(12, 9), 11);
    }

    @Edge(of = "21", says = "-2: there are none such")
    static void p21_minus2ThereAreNoneSuch(Check c) {
        Missing.versions(c, "shared(v, 0)", (x, v) -> x.shared(v, 0));
        Missing.versions(c, "shared(0, v)", (x, v) -> x.shared(0, v));
        Missing.versions(c, "shared(v, v)", (x, v) -> x.shared(v, v));
    }
}

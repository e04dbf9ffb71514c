/** Promises 13 to 27: TREES, CELLS, LINKS; answers found by hand, from the document's words. */
public final class TreesTest {
    private static final Check CHECK = new Check("TreesTest");
    /** JOBS 0 to 7 in order, VERSION 8 has all, 9 all but the first. */
    private static final String UP = "new;put 0 1 for 1;put 1 2 for 1;put 2 3 for 1;put 3 4 for 1;put 4 5 for 1;"
            + "put 5 6 for 1;put 6 7 for 1;put 7 8 for 1;take 8;";
    private static final String LAW0 = "plan law 0 hands 1;";
    private static final String LAW1 = "plan law 1 hands 1;";

    public static void main(String[] args) {
        queuesByLaw0();
        queuesByLaw1();
        cellsByLaw0();
        cellsOfJoins();
        headsOfOneJob();
        depths();
        linksByLaws();
        lawOneIsLean();
        drains();
        wrongInputs();
        CHECK.finish();
    }

    private static void queuesByLaw0() {
        HeapVersions x = Check.planned(LAW0 + UP);
        int[][] ranks = {{}, {}, {0}, {0, 0}, {1}, {0, 1}, {0, 0, 1}, {1, 1}, {2}, {2}};
        int[][] holds = {{}, {}, {1}, {1, 1}, {3}, {1, 3}, {1, 1, 3}, {3, 3}, {7}, {6}};
        int[][] singles = {{}, {}, {0}, {0, 0}, {1}, {0, 1}, {0, 0, 1}, {1, 1}, {2}, {1}};
        int[][] heads = {{}, {}, {1}, {2, 1}, {1}, {4, 1}, {5, 4, 1}, {4, 1}, {1}, {2}};
        for (int v = 0; v < ranks.length; v++) {
            queue(x, v, ranks[v], holds[v], singles[v], heads[v]);
        }
    }

    private static void queuesByLaw1() {
        HeapVersions x = Check.planned(LAW1 + UP);
        int[][] ranks = {{}, {}, {0}, {1}, {0, 1}, {2}, {0, 2}, {1, 2}, {0, 1, 2}, {1, 2}};
        int[][] holds = {{}, {}, {1}, {2}, {1, 2}, {4}, {1, 4}, {2, 4}, {1, 2, 4}, {2, 4}};
        int[][] singles = {{}, {}, {0}, {0}, {0, 0}, {0}, {0, 0}, {0, 0}, {0, 0, 0}, {0, 0}};
        int[][] heads = {{}, {}, {1}, {1}, {3, 1}, {1}, {5, 1}, {5, 1}, {7, 5, 1}, {2, 3}};
        for (int v = 0; v < ranks.length; v++) {
            queue(x, v, ranks[v], holds[v], singles[v], heads[v]);
        }
    }

    private static void queue(HeapVersions x, int v, int[] ranks, int[] holds, int[] singles, int[] heads) {
        CHECK.due("trees(" + v + ")", x.trees(v), ranks.length);
        for (int i = 0; i <= ranks.length; i++) {
            boolean last = i == ranks.length;
            String args = "(" + v + ", " + i + ")";
            CHECK.due("rank" + args, x.rank(v, i), last ? -1 : ranks[i]);
            CHECK.due("holds" + args, x.holds(v, i), last ? -1 : holds[i]);
            CHECK.due("singles" + args, x.singles(v, i), last ? -1 : singles[i]);
            CHECK.due("head" + args, x.head(v, i), last ? -1 : heads[i]);
        }
    }

    private static void cellsByLaw0() {
        HeapVersions x = Check.planned(LAW0 + UP);
        int[] parts = new int[10];
        int[] own = new int[10];
        for (int v = 0; v < 10; v++) {
            parts[v] = x.parts(v);
            own[v] = x.own(v);
        }
        // a new HEAP, a TREE and a HEAP each; where a third thing is put beside two, a TREE less stands then
        CHECK.row("parts", parts, 0, 1, 3, 5, 6, 8, 10, 11, 12, 11);
        CHECK.row("own", own, 0, 1, 3, 3, 3, 3, 3, 3, 3, 3);
        CHECK.due("shared(8, 9)", x.shared(8, 9), 8);
        CHECK.due("shared(9, 8)", x.shared(9, 8), 8);
        CHECK.due("shared(7, 6): one TREE of RANK 1, two HEAPS of the others", x.shared(7, 6), 8);
        CHECK.due("shared(5, 5)", x.shared(5, 5), 8);
        CHECK.due("shared(5, 0)", x.shared(5, 0), 0);
        CHECK.due("shared(0, 0)", x.shared(0, 0), 0);
        // the first HEAP of JOB 0 stands in no later VERSION: each put makes another one of that JOB
        CHECK.due("shared(2, 1)", x.shared(2, 1), 0);
    }

    private static void cellsOfJoins() {
        HeapVersions x = Check.planned(LAW0 + "new;put 0 5 for 1;join 0 1;join 1 0;join 0 0;join 1 1;join 5 1;");
        CHECK.due("shared(2, 1): the other one, if one is empty", x.shared(2, 1), 1);
        CHECK.due("shared(3, 1)", x.shared(3, 1), 1);
        CHECK.due("own(2)", x.own(2), 0);
        CHECK.due("own(3)", x.own(3), 0);
        CHECK.due("parts(4)", x.parts(4), 0);
        CHECK.due("parts(5): each CELL once", x.parts(5), 3);
        CHECK.due("own(5)", x.own(5), 2);
        CHECK.due("size(6)", x.size(6), 3);
        CHECK.due("parts(6): a HEAP, two TREES of one head", x.parts(6), 4);
        CHECK.due("own(6)", x.own(6), 2);
        CHECK.due("holds(6, 0)", x.holds(6, 0), 1);
        CHECK.due("joins(6, 6)", x.joins(6, 6), 7);
        // the first two TREES of VERSION 6 are linked, itself is their SINGLE or their head
        CHECK.due("trees(7)", x.trees(7), 1);
        CHECK.due("rank(7, 0)", x.rank(7, 0), 1);
        CHECK.due("holds(7, 0)", x.holds(7, 0), 5);
        CHECK.due("singles(7, 0)", x.singles(7, 0), 1);
        CHECK.due("parts(7)", x.parts(7), 6);
        CHECK.due("own(7)", x.own(7), 2);
    }

    /** Where neither is less, the LINK is the first one's, and the HEAP beside it is the head. */
    private static void headsOfOneJob() {
        HeapVersions x = Check.planned(LAW0 + "new;put 0 5 for 1;put 1 7 for 1;put 2 6 for 1;join 1 3;join 4 1;join 4 4;");
        // 3: JOB 0 with the TREES of 2, 1; 4: JOB 0 with 3 put ahead of none; 5: with 1 ahead of that
        CHECK.due("trees(4)", x.trees(4), 1);
        CHECK.due("holds(4, 0)", x.holds(4, 0), 3);
        CHECK.due("trees(5)", x.trees(5), 2);
        CHECK.due("holds(5, 0)", x.holds(5, 0), 1);
        CHECK.due("joins(5, 1)", x.joins(5, 1), 7);
        // LINK of the HEAP 1 (first) and the HEAP 3: head 1; beside it the HEAP 1 is no greater, so it is the head
        CHECK.due("singles(7, 0)", x.singles(7, 0), 1);
        CHECK.due("takes(7)", x.takes(7), 8);
        // the TREE of the HEAP 3 is left, the HEAP 1 is put ahead; both are linked, as the head has no TREES
        CHECK.due("links(8)", x.links(8), 1);
        CHECK.due("trees(8)", x.trees(8), 1);
        CHECK.due("takes(8)", x.takes(8), 9);
        // of the LINK the HEAP 1 (first) is the head: the TREE of 3 is left alone, nothing is linked
        CHECK.due("links(9)", x.links(9), 0);
        CHECK.due("trees(9)", x.trees(9), 1);
        CHECK.due("holds(9, 0)", x.holds(9, 0), 3);
    }

    private static void depths() {
        HeapVersions x = Check.planned(LAW0 + "new;put 0 50 for 1;put 1 49 for 1;put 2 48 for 1;put 3 47 for 1;join 4 4;"
                + "take 5;");
        int[] depth = new int[7];
        for (int v = 0; v < 7; v++) {
            depth[v] = x.depth(v);
        }
        CHECK.row("depth", depth, 0, 1, 2, 3, 4, 5, 4);
        HeapVersions y = Check.planned(LAW1 + UP);
        CHECK.due("depth(8): TREES are no HEAPS", y.depth(8), 2);
        HeapVersions z = Check.planned(LAW0 + "new;");
        for (int v = 0; v < 24; v++) {
            CHECK.due("puts", z.puts(v, 999 - v, 1), v + 1);
            CHECK.due("depth(" + (v + 1) + ")", z.depth(v + 1), v + 1);
        }
        CHECK.due("parts(24)", z.parts(24), 47);
    }

    private static void linksByLaws() {
        int[] by0 = {0, 0, 0, 0, 1, 0, 0, 1, 1, 2};
        int[] by1 = {0, 0, 0, 1, 0, 2, 0, 1, 0, 2};
        for (int law = 0; law < 2; law++) {
            HeapVersions x = Check.planned((law == 0 ? LAW0 : LAW1) + UP);
            for (int v = 0; v < 10; v++) {
                CHECK.due("links(" + v + ")", x.links(v), law == 0 ? by0[v] : by1[v]);
                CHECK.due("by(0, " + v + ")", x.by(0, v), by0[v]);
                CHECK.due("by(1, " + v + ")", x.by(1, v), by1[v]);
            }
            CHECK.due("all()", x.all(), law == 0 ? 5 : 6);
            CHECK.due("lean()", x.lean(), 0);
            CHECK.due("by(2, 0)", x.by(2, 0), -2);
            CHECK.due("by(-1, 0)", x.by(-1, 0), -2);
            CHECK.due("by(0, 10)", x.by(0, 10), -2);
            CHECK.due("by(1, -1)", x.by(1, -1), -2);
            CHECK.due("takes(8)", x.takes(8), 10);
            CHECK.due("all() with acts", x.all(), law == 0 ? 7 : 8);
            CHECK.due("undo()", x.undo(), 0);
            CHECK.due("all()", x.all(), law == 0 ? 5 : 6);
        }
    }

    private static void lawOneIsLean() {
        String text = "new;put 0 5 for 1;put 1 6 for 1;put 2 7 for 1;put 3 1 for 1;take 4;";
        for (int law = 0; law < 2; law++) {
            HeapVersions x = Check.planned((law == 0 ? LAW0 : LAW1) + text);
            // by LAW 1 the third put links, by LAW 0 the take
            CHECK.due("lean(): both are as good", x.lean(), 0);
            CHECK.due("takes(4)", x.takes(4), 6);
            CHECK.due("by(0, 6)", x.by(0, 6), 1);
            CHECK.due("by(1, 6)", x.by(1, 6), 0);
            CHECK.due("lean()", x.lean(), 1);
            CHECK.due("all()", x.all(), law == 0 ? 2 : 1);
        }
    }

    private static void drains() {
        for (int law = 0; law < 2; law++) {
            HeapVersions x = Check.planned((law == 0 ? LAW0 : LAW1) + UP);
            for (int v = 0; v < 10; v++) {
                drain(x, v);
            }
            CHECK.due("drain(0)", x.drain(0), 0);
            CHECK.due("dearest(0)", x.dearest(0), 0);
            CHECK.due("drain(1)", x.drain(1), 0);
            CHECK.due("dearest(8)", x.dearest(8), 2);
            CHECK.due("drain(8) - drain(9)", x.drain(8) - x.drain(9), 2);
            CHECK.due("count(2): nothing was made", x.count(2), 10);
        }
    }

    /** As by acts that take all. */
    private static void drain(HeapVersions x, int version) {
        int drain = x.drain(version);
        int dearest = x.dearest(version);
        int together = 0;
        int most = 0;
        for (int v = version; x.size(v) > 0;) {
            v = x.takes(v);
            together += x.links(v);
            most = Math.max(most, x.links(v));
        }
        CHECK.due("drain(" + version + ")", drain, together);
        CHECK.due("dearest(" + version + ")", dearest, most);
        x.anew();
    }

    private static void wrongInputs() {
        HeapVersions x = Check.planned(LAW0 + UP);
        for (int v : new int[] {-1, 10, Integer.MAX_VALUE, Integer.MIN_VALUE}) {
            CHECK.due("trees(" + v + ")", x.trees(v), -2);
            CHECK.due("rank(" + v + ", 0)", x.rank(v, 0), -2);
            CHECK.due("holds(" + v + ", 0)", x.holds(v, 0), -2);
            CHECK.due("singles(" + v + ", 0)", x.singles(v, 0), -2);
            CHECK.due("head(" + v + ", 0)", x.head(v, 0), -2);
            CHECK.due("depth(" + v + ")", x.depth(v), -2);
            CHECK.due("parts(" + v + ")", x.parts(v), -2);
            CHECK.due("own(" + v + ")", x.own(v), -2);
            CHECK.due("shared(" + v + ", 0)", x.shared(v, 0), -2);
            CHECK.due("shared(0, " + v + ")", x.shared(0, v), -2);
            CHECK.due("links(" + v + ")", x.links(v), -2);
            CHECK.due("drain(" + v + ")", x.drain(v), -2);
            CHECK.due("dearest(" + v + ")", x.dearest(v), -2);
        }
        for (int i : new int[] {-1, Integer.MIN_VALUE, 3, Integer.MAX_VALUE}) {
            CHECK.due("rank(6, " + i + ")", x.rank(6, i), i < 0 ? -2 : -1);
            CHECK.due("holds(6, " + i + ")", x.holds(6, i), i < 0 ? -2 : -1);
            CHECK.due("singles(6, " + i + ")", x.singles(6, i), i < 0 ? -2 : -1);
            CHECK.due("head(6, " + i + ")", x.head(6, i), i < 0 ? -2 : -1);
        }
    }
}

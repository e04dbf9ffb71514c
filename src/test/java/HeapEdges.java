/**
 * Terms II: HEAPS, TREES, LINKS, QUEUES, CELLS. In the comments j0, j1 .. are the JOBS (and HEAPS of them without
 * TREES), A, B .. other HEAPS, t(A) the TREE of RANK 0 with the head A; a QUEUE is written as a row.
 */
final class HeapEdges {
    private static final String LAW0 = "plan law 0 hands 1;new;";
    private static final String LAW1 = "plan law 1 hands 1;new;";

    private HeapEdges() {
    }

    /** LINES that put JOBS of these KEYS one behind the other: VERSION n has the first n of them. */
    private static String puts(int... keys) {
        StringBuilder lines = new StringBuilder();
        for (int v = 0; v < keys.length; v++) {
            lines.append("put ").append(v).append(' ').append(keys[v]).append(" for 1;");
        }
        return lines.toString();
    }

    /** KEYS 1, 2 .. n. */
    private static String up(int n) {
        int[] keys = new int[n];
        for (int i = 0; i < n; i++) {
            keys[i] = i + 1;
        }
        return puts(keys);
    }

    private static int[] ranks(HeapVersions x, int v) {
        int[] ranks = new int[Math.max(0, x.trees(v))];
        for (int i = 0; i < ranks.length; i++) {
            ranks[i] = x.rank(v, i);
        }
        return ranks;
    }

    private static int[] heads(HeapVersions x, int v) {
        int[] heads = new int[Math.max(0, x.trees(v))];
        for (int i = 0; i < heads.length; i++) {
            heads[i] = x.head(v, i);
        }
        return heads;
    }

    // ---- what HEAPS and TREES are

    @Edge(of = "II", says = "HEAP: empty, or a JOB and a QUEUE, a row of TREES (none, too)")
    static void tII_aHeapIsEmptyOrAJobAndAQueue(Check c) {
        HeapVersions x = c.told(LAW0 + up(3), 5);
        c.row("an empty one", new int[] {x.size(0), x.trees(0), x.depth(0), x.parts(0)}, 0, 0, 0, 0);
        c.row("a JOB and no TREES", new int[] {x.size(1), x.trees(1), x.depth(1), x.parts(1)}, 1, 0, 1, 1);
        c.row("one TREE", new int[] {x.size(2), x.trees(2), x.depth(2), x.parts(2)}, 2, 1, 2, 3);
        c.row("two", new int[] {x.size(3), x.trees(3), x.depth(3), x.parts(3)}, 3, 2, 2, 5);
    }

    @Edge(of = "II", says = "TREE: a RANK, its head (a HEAP that is not empty), SINGLES (a row of such), "
            + "SUBTREES (a row of TREES)")
    static void tII_aTreeHasARankAHeadSinglesSubtrees(Check c) {
        // one TREE of RANK 1: the head j1, the SINGLE j3, the SUBTREE t(j2)
        HeapVersions x = c.told(LAW0 + up(4), 6);
        c.row("the TREE", new int[] {x.rank(4, 0), x.head(4, 0), x.singles(4, 0), x.holds(4, 0)}, 1, 1, 1, 3);
        c.due("CELLS: the HEAP, the TREE, j1, j3, t(j2), j2", x.parts(4), 6);
        c.row("a TREE of RANK 0", new int[] {x.rank(2, 0), x.head(2, 0), x.singles(2, 0), x.holds(2, 0)}, 0, 1, 0, 1);
    }

    @Edge(of = "II", says = "HEAPS that are not empty are compared by their JOBS")
    static void tII_heapsAreComparedByTheirJobs(Check c) {
        HeapVersions x = c.told(LAW1 + puts(5, 5, 5) + "join 1 3;", 6);
        c.due("of one KEY: j1 is less than j2", x.head(3, 0), 1);
        // j3 of a lesser KEY is less than a HEAP of three JOBS
        c.due("puts(3, 4, 1)", x.puts(3, 4, 1), 5);
        c.row("the least JOB, and what stands in it", new int[] {x.least(5), x.head(5, 0), x.holds(5, 0)}, 3, 0, 3);
    }

    // ---- LINK

    @Edge(of = "II", says = "LINK of two TREES of one RANK, a first and a second one: a new TREE, its RANK 1 more")
    static void tII_linkIsANewTreeOfARankMore(Check c) {
        HeapVersions x = c.told(LAW1 + up(17), 19);
        int[] whole = {2, 3, 5, 9, 17};
        for (int rank = 0; rank < whole.length; rank++) {
            c.row("ranks(" + whole[rank] + ")", ranks(x, whole[rank]), rank);
            c.due("holds(" + whole[rank] + ", 0)", x.holds(whole[rank], 0), 1 << rank);
        }
        c.due("own(3): a new HEAP, the LINK, t(j2) and j2", x.own(3), 4);
    }

    @Edge(of = "II", says = ": it has the head and the SINGLES of the one with the lesser head")
    static void tII_linkHasTheHeadAndSinglesOfTheLesser(Check c) {
        c.due("the second one's head is less", c.told(LAW1 + puts(1, 2, 3), 5).head(3, 0), 1);
        c.due("the first one's head is less", c.told(LAW1 + puts(1, 3, 2), 5).head(3, 0), 2);
        // the take ends with the LINK of a TREE of the head j1 (KEY 3) without SINGLES, and of one with a SINGLE
        HeapVersions second = c.told(LAW0 + puts(1, 3, 3, 1, 3, 3, 2) + "take 7;", 10);
        c.row("that one's head, of KEY 2, is less",
                new int[] {second.rank(8, 0), second.head(8, 0), second.singles(8, 0)}, 2, 6, 1);
        HeapVersions first = c.told(LAW0 + puts(1, 3, 3, 1, 3, 3, 4) + "take 7;", 10);
        c.row("j1 is less", new int[] {first.rank(8, 0), first.head(8, 0), first.singles(8, 0)}, 2, 1, 0);
    }

    @Edge(of = "II", says = "(of the first, if neither is less)")
    static void tII_linkHasThoseOfTheFirstIfNeitherIsLess(Check c) {
        // A is VERSION 1; 3 is j1 with the LINK of a new t(A), first, and of the t(A) of VERSION 2: which is its SUBTREE
        HeapVersions x = c.told(LAW1 + "put 0 3 for 1;put 1 1 for 1;join 2 1;", 5);
        c.row("parts, own, shared with 2", new int[] {x.parts(3), x.own(3), x.shared(3, 2)}, 4, 2, 2);
    }

    @Edge(of = "II", says = ", and the other one ahead of that one's SUBTREES")
    static void tII_linkHasTheOtherOneAheadOfTheSubtrees(Check c) {
        // VERSION 5 has a TREE of RANK 2 with the SUBTREES of RANK 1, 0: the last one first, they need no LINK
        HeapVersions x = c.told(LAW1 + up(5) + "take 5;", 8);
        c.due("links(6)", x.links(6), 0);
        c.row("ranks(6)", ranks(x, 6), 0, 1);
        c.row("heads(6)", heads(x, 6), 2, 3);
        c.due("own(6): a HEAP alone", x.own(6), 1);
    }

    // ---- CARRIED

    @Edge(of = "II", says = "A TREE is CARRIED into a QUEUE: ahead of all, if there are none")
    static void tII_carriedIntoNone(Check c) {
        HeapVersions x = c.told(LAW1 + up(2), 4);
        c.row("ranks(2)", ranks(x, 2), 0);
        c.due("links(2)", x.links(2), 0);
        // all are LINKED, and the last LINK is CARRIED into none
        HeapVersions y = c.told(LAW1 + up(17), 19);
        c.row("ranks(16)", ranks(y, 16), 0, 1, 2, 3);
        c.row("ranks(17)", ranks(y, 17), 4);
    }

    @Edge(of = "II", says = ", or if its RANK is less than that of the first")
    static void tII_carriedAheadIfItsRankIsLess(Check c) {
        HeapVersions x = c.told(LAW1 + up(14), 16);
        c.row("ranks(4)", ranks(x, 4), 0, 1);
        c.row("ranks(10): by far less", ranks(x, 10), 0, 3);
        c.row("ranks(13): a LINK of RANK 2", ranks(x, 13), 2, 3);
        c.row("ranks(14)", ranks(x, 14), 0, 2, 3);
        c.row("links", new int[] {x.links(4), x.links(10), x.links(14)}, 0, 0, 0);
    }

    @Edge(of = "II", says = "else its LINK (it first) with the first one is CARRIED into the rest")
    static void tII_carriedOnAsALink(Check c) {
        HeapVersions x = c.told(LAW1 + up(17), 19);
        c.row("links", new int[] {x.links(3), x.links(5), x.links(9), x.links(17)}, 1, 2, 3, 4);
        c.row("no farther than one of a greater RANK", new int[] {x.links(13), x.rank(13, 0), x.rank(13, 1)}, 2, 2, 3);
        // it is the first one of the LINK: see that of two TREES of one head
        HeapVersions y = c.told(LAW1 + "put 0 3 for 1;put 1 1 for 1;join 2 1;", 5);
        c.due("own(3): the TREE that was there is the SUBTREE", y.own(3), 2);
    }

    // ---- PUT

    @Edge(of = "II", says = "A HEAP is PUT into a QUEUE: by LAW 0, if its first two TREES have one RANK: of their LINK and "
            + "the HEAP one new TREE is made, of the RANK and with the SUBTREES of the LINK")
    static void tII_putBesideTwoOfOneRank(Check c) {
        HeapVersions x = c.told(LAW0 + up(12), 14);
        c.row("no TREES, one alone", new int[] {x.links(2), x.links(3), x.trees(3)}, 0, 0, 2);
        c.row("two of RANK 0", new int[] {x.links(4), x.trees(4), x.rank(4, 0), x.holds(4, 0), x.parts(4)}, 1, 1, 1, 3, 6);
        c.row("two of other RANKS", new int[] {x.links(6), x.trees(6), x.rank(6, 0), x.rank(6, 1), x.rank(6, 2)}, 0, 3, 0, 0, 1);
        c.row("two of RANK 1", new int[] {x.links(8), x.trees(8), x.rank(8, 0), x.holds(8, 0), x.parts(8)}, 1, 1, 2, 7, 12);
        c.row("ranks(11): nothing is carried on", ranks(x, 11), 1, 2);
        c.row("ranks(12)", ranks(x, 12), 0, 1, 2);
        c.due("links(11)", x.links(11), 1);
    }

    @Edge(of = "II", says = ": if the head of the LINK is less than the HEAP, it has that head, and the HEAP ahead of the "
            + "SINGLES")
    static void tII_putTheHeapAheadOfTheSingles(Check c) {
        HeapVersions x = c.told(LAW0 + puts(1, 2, 1, 1, 3, 3, 3, 2) + "take 8;", 11);
        c.row("VERSION 4 keeps the head j2", new int[] {x.head(4, 0), x.singles(4, 0)}, 2, 1);
        c.row("VERSION 8 keeps it, too", new int[] {x.rank(8, 0), x.head(8, 0), x.singles(8, 0)}, 2, 2, 2);
        // its SINGLES are j7, j3: j7 is put first and LINKED with t(j1), beside j3; then t(j7) is a SUBTREE
        c.row("own(9), shared(9, 8): a HEAP, a TREE, t(j7)", new int[] {x.own(9), x.shared(9, 8)}, 3, 8);
        c.row("VERSION 9", new int[] {x.rank(9, 0), x.head(9, 0), x.singles(9, 0), x.links(9)}, 2, 3, 1, 2);
    }

    @Edge(of = "II", says = ", else the HEAP is its head, and that head ahead of the SINGLES")
    static void tII_putTheHeapAsTheHead(Check c) {
        HeapVersions x = c.told(LAW0 + puts(0, 5, 3, 8, 9, 9, 9, 1) + "take 8;", 11);
        c.row("VERSION 8 has the head j7", new int[] {x.rank(8, 0), x.head(8, 0), x.singles(8, 0)}, 2, 7, 2);
        // its SINGLES are j2, j3: j2 is put first and LINKED with t(j1), beside j3; t(j1) stays a SUBTREE
        c.row("own(9), shared(9, 8): a HEAP and a TREE", new int[] {x.own(9), x.shared(9, 8)}, 2, 9);
        // neither is less: VERSION 4 has the head C (VERSION 3) and the SINGLE A (VERSION 2), both of j0
        HeapVersions y = c.told(LAW0 + "put 0 1 for 1;put 1 6 for 1;join 2 2;join 3 3;take 4;", 7);
        // A is put to t(j1); C has the TREES t(A), t(j1): two LINKS at the begin of the MERGE, one in it
        c.row("VERSION 5", new int[] {y.links(5), y.trees(5), y.rank(5, 0), y.holds(5, 0)}, 3, 1, 2, 6);
    }

    @Edge(of = "II", says = "it stands in place of the two")
    static void tII_itStandsInPlaceOfTheTwo(Check c) {
        HeapVersions x = c.told(LAW0 + up(7), 9);
        c.row("ranks(6)", ranks(x, 6), 0, 0, 1);
        c.row("ranks(7)", ranks(x, 7), 1, 1);
        c.row("heads(7)", heads(x, 7), 4, 1);
        c.row("holds(7)", new int[] {x.holds(7, 0), x.holds(7, 1)}, 3, 3);
    }

    @Edge(of = "II", says = "Else (and always by LAW 1) a new TREE of RANK 0 with it as its head and nothing else")
    static void tII_putElseATreeOfRank0(Check c) {
        HeapVersions x = c.told(LAW0 + up(4) + "put 4 0 for 1;", 7);
        c.row("to none", new int[] {x.rank(2, 0), x.head(2, 0), x.singles(2, 0), x.holds(2, 0)}, 0, 1, 0, 1);
        c.row("to one", new int[] {x.rank(3, 0), x.head(3, 0), x.singles(3, 0), x.holds(3, 0)}, 0, 2, 0, 1);
        c.row("a HEAP of four", new int[] {x.rank(5, 0), x.head(5, 0), x.singles(5, 0), x.holds(5, 0)}, 0, 0, 0, 4);
        HeapVersions y = c.told(LAW1 + up(18), 20);
        for (int v = 1; v <= 18; v++) {
            for (int i = 0; i < y.trees(v); i++) {
                c.due("singles(" + v + ", " + i + ") by LAW 1", y.singles(v, i), 0);
            }
        }
        c.row("by LAW 1", new int[] {y.rank(18, 0), y.head(18, 0), y.holds(18, 0)}, 0, 17, 1);
    }

    @Edge(of = "II", says = ": by LAW 0 it stands ahead of all")
    static void tII_byLaw0ItStandsAheadOfAll(Check c) {
        HeapVersions x = c.told(LAW0 + up(6), 8);
        c.row("heads(3)", heads(x, 3), 2, 1);
        c.row("ranks(3)", ranks(x, 3), 0, 0);
        c.row("heads(6)", heads(x, 6), 5, 4, 1);
        c.row("links", new int[] {x.links(3), x.links(6)}, 0, 0);
    }

    @Edge(of = "II", says = ", by LAW 1 it is CARRIED into the QUEUE")
    static void tII_byLaw1ItIsCarried(Check c) {
        HeapVersions x = c.told(LAW1 + up(5), 7);
        c.row("ranks(3)", ranks(x, 3), 1);
        c.row("ranks(4)", ranks(x, 4), 0, 1);
        c.row("ranks(5)", ranks(x, 5), 2);
    }

    // ---- MERGE

    @Edge(of = "II", says = "MERGE of two QUEUES: of each of both (first the one, then the other) the first TREE, if there is "
            + "one, is CARRIED into the rest of it")
    static void tII_mergeCarriesTheFirstOfEach(Check c) {
        // the head's QUEUE, the one, is t(j2), t(j1); there are no others
        HeapVersions one = c.told(LAW0 + puts(2, 3, 3, 1) + "take 4;", 7);
        c.row("the one", new int[] {one.links(5), one.trees(5), one.rank(5, 0)}, 1, 1, 1);
        // the head j2 has no TREES; the others are t(j3) and the TREE of VERSION 1
        HeapVersions other = c.told(LAW0 + puts(3, 1, 2, 2) + "take 4;", 7);
        c.row("the other", new int[] {other.links(5), other.trees(5), other.rank(5, 0)}, 1, 1, 1);
        HeapVersions none = c.told(LAW0 + puts(3, 5) + "take 2;", 5);
        c.row("neither has one", new int[] {none.links(3), none.trees(3), none.least(3)}, 0, 0, 1);
        // both: C's t(A), t(j1) and A's t(A), t(j1), each LINKED, and then their LINKS
        HeapVersions both = c.told(LAW0 + "put 0 1 for 1;put 1 6 for 1;join 2 2;join 3 3;take 4;", 7);
        c.row("both", new int[] {both.links(5), both.trees(5), both.rank(5, 0)}, 3, 1, 2);
    }

    @Edge(of = "II", says = "then, as long as both have some")
    static void tII_mergeAsLongAsBothHaveSome(Check c) {
        HeapVersions other = c.told(LAW0 + puts(1, 1, 1) + "take 3;", 6);
        c.row("the one has none", new int[] {other.trees(4), other.head(4, 0), other.links(4)}, 1, 2, 0);
        HeapVersions one = c.told(LAW0 + puts(7, 9, 2) + "take 3;", 6);
        c.row("the other has none", new int[] {one.trees(4), one.head(4, 0), one.links(4)}, 1, 1, 0);
        HeapVersions longer = c.told(LAW1 + up(9) + "join 9 3;take 10;", 13);
        // 9 has a TREE of RANK 3 and VERSION 3 one of RANK 1; the TREES of 9, RANKS 0, 1, 2, and RANK 1: 0, then 2 and 2
        c.row("ranks(11): the rest of the one that has more", ranks(longer, 11), 1, 3);
        c.row("links(10), links(11)", new int[] {longer.links(10), longer.links(11)}, 0, 0);
    }

    @Edge(of = "II", says = ": the first one of lesser RANK goes ahead of the MERGE of all others")
    static void tII_mergeTheLesserRankGoesAhead(Check c) {
        // the one is t(j1), the other a TREE of RANK 1
        HeapVersions one = c.told(LAW1 + puts(1, 1, 2) + "join 3 2;take 4;", 7);
        c.row("ranks of one less", ranks(one, 5), 0, 1);
        // the one is a TREE of RANK 1, the other t(j1)
        HeapVersions other = c.told(LAW1 + puts(1, 1, 2) + "join 2 3;take 4;", 7);
        c.row("ranks of other less", ranks(other, 5), 0, 1);
        c.row("links", new int[] {one.links(5), other.links(5)}, 0, 0);
    }

    @Edge(of = "II", says = "if both first ones have one RANK, their LINK (that of the first QUEUE first) is CARRIED into the "
            + "MERGE of the rests")
    static void tII_mergeCarriesTheLinkOfBoth(Check c) {
        // 2 is B with t(A), A being VERSION 1; the take LINKS t(A), first, and t(B), both of j0: t(B) is the SUBTREE
        HeapVersions tie = c.told(LAW0 + "put 0 3 for 1;join 1 1;put 2 1 for 1;join 2 3;take 4;", 7);
        c.row("parts(5), shared(5, 4)", new int[] {tie.parts(5), tie.shared(5, 4), tie.links(5)}, 6, 4, 1);
        // t(j1) and t(j3) are LINKED, and that with the TREE of RANK 1 that the rests are
        HeapVersions carried = c.told(LAW1 + up(4) + "join 4 2;take 5;", 8);
        c.row("VERSION 6", new int[] {carried.links(6), carried.trees(6), carried.rank(6, 0), carried.holds(6, 0)}, 2, 1, 2, 4);
    }

    @Edge(of = "II", says = "(made ahead of that LINK; there no TREE is CARRIED at the begin)")
    static void tII_mergeOfTheRestsIsMadeAhead(Check c) {
        // RANKS 0, 1 and 0, 1: the rests make a TREE of RANK 2, and the LINK of RANK 1 stands ahead of it
        HeapVersions x = c.told(LAW1 + puts(1, 2, 3, 2) + "join 4 4;take 5;", 8);
        c.row("ranks(6)", ranks(x, 6), 1, 2);
        c.row("heads(6)", heads(x, 6), 3, 1);
        c.row("holds(6), links(6)", new int[] {x.holds(6, 0), x.holds(6, 1), x.links(6)}, 2, 4, 2);
    }

    // ---- JOIN

    @Edge(of = "II", says = "JOIN of two HEAPS: the other one, if one is empty")
    static void tII_joinIsTheOtherOneIfOneIsEmpty(Check c) {
        HeapVersions x = c.told(LAW0 + up(4) + "join 0 4;join 4 0;join 0 0;new;join 7 8;", 11);
        c.row("none and some", new int[] {x.own(5), x.parts(5), x.shared(5, 4), x.links(5)}, 0, 6, 6, 0);
        c.row("some and none", new int[] {x.own(6), x.parts(6), x.shared(6, 4), x.links(6)}, 0, 6, 6, 0);
        c.row("none and none", new int[] {x.parts(7), x.size(7), x.parts(9), x.size(9)}, 0, 0, 0, 0);
    }

    @Edge(of = "II", says = "else, if the second one's JOB is less than the first one's: a new HEAP of the second one's JOB, and "
            + "its QUEUE, into which the first one is PUT")
    static void tII_joinIfTheSecondOneIsLess(Check c) {
        HeapVersions x = c.told(LAW0 + "put 0 5 for 1;put 0 3 for 1;put 2 9 for 1;join 1 3;", 6);
        c.row("VERSION 4", new int[] {x.least(4), x.trees(4), x.head(4, 0), x.head(4, 1)}, 1, 2, 0, 2);
        c.row("it has the first one, and the TREES of the second", new int[] {x.shared(4, 1), x.shared(4, 3), x.own(4)}, 1, 2, 2);
        HeapVersions y = c.told(LAW0 + "put 0 5 for 1;put 0 5 for 1;join 2 1;", 5);
        c.row("of one KEY", new int[] {y.least(3), y.head(3, 0), y.shared(3, 2), y.shared(3, 1)}, 0, 1, 1, 0);
    }

    @Edge(of = "II", says = "else of the first one's JOB, and its QUEUE, into which the second one is PUT")
    static void tII_joinElseOfTheFirstOnesJob(Check c) {
        HeapVersions x = c.told(LAW0 + "put 0 5 for 1;put 0 3 for 1;put 2 9 for 1;join 3 1;", 6);
        c.row("VERSION 4", new int[] {x.least(4), x.trees(4), x.head(4, 0), x.head(4, 1)}, 1, 2, 0, 2);
        c.row("it has the second one, and the TREES of the first", new int[] {x.shared(4, 1), x.shared(4, 3), x.own(4)}, 1, 2, 2);
        // neither is less: VERSION 2 is j0 with t(j1); VERSION 1, j0, is put into its QUEUE
        HeapVersions y = c.told(LAW1 + "put 0 3 for 1;put 1 4 for 1;join 2 1;", 5);
        c.row("neither is less", new int[] {y.depth(3), y.rank(3, 0), y.links(3), y.shared(3, 1), y.shared(3, 2)}, 2, 1, 1, 1, 2);
    }

    // ---- new, put, join, take

    @Edge(of = "II", says = "new: an empty HEAP")
    static void tII_newIsAnEmptyHeap(Check c) {
        HeapVersions x = c.told(LAW0 + up(2) + "new;put 3 9 for 1;", 6);
        for (int v : new int[] {0, 3}) {
            c.row("new", new int[] {x.size(v), x.least(v), x.trees(v), x.parts(v), x.own(v), x.links(v)}, 0, -1, 0, 0, 0, 0);
        }
        c.row("a put behind it", new int[] {x.size(4), x.least(4)}, 1, 2);
        Check.tell(x, "plan law 0 hands 1;new;new;new;");
        c.due("plan()", x.plan(), 4);
        c.row("in place of one with two JOBS", new int[] {x.size(2), x.least(2), x.trees(2), x.parts(2)}, 0, -1, 0, 0);
    }

    @Edge(of = "II", says = "put: JOIN of a new HEAP of that JOB with no TREES and of V")
    static void tII_putJoinsANewHeap(Check c) {
        HeapVersions x = c.told(LAW0 + puts(5, 6, 1) + "put 0 5 for 1;put 2 7 for 1;", 7);
        c.row("to an empty one", new int[] {x.parts(1), x.own(1), x.trees(1)}, 1, 1, 0);
        c.row("to a lesser one: a HEAP, a TREE, j1", new int[] {x.own(2), x.shared(2, 1), x.head(2, 0)}, 3, 0, 1);
        c.row("to a greater one: a HEAP, a TREE of it",
                new int[] {x.own(3), x.shared(3, 2), x.head(3, 0), x.holds(3, 0)}, 2, 3, 0, 2);
        c.due("a new one each time", x.shared(4, 1), 0);
        c.row("to a lesser one with a TREE", new int[] {x.own(5), x.parts(5), x.head(5, 0), x.holds(5, 0)}, 3, 5, 4, 1);
    }

    @Edge(of = "II", says = "join: JOIN of the first V and of the second V")
    static void tII_joinJoinsTheFirstAndTheSecond(Check c) {
        HeapVersions x = c.told(LAW1 + "put 0 3 for 1;put 1 4 for 1;join 2 1;join 1 2;", 6);
        c.row("2 and 1, both of j0", new int[] {x.depth(3), x.rank(3, 0), x.links(3)}, 2, 1, 1);
        c.row("1 and 2", new int[] {x.depth(4), x.rank(4, 0), x.links(4)}, 3, 0, 0);
    }

    @Edge(of = "II", says = "take: its JOB is taken")
    static void tII_takeTakesItsJob(Check c) {
        HeapVersions x = c.told(LAW0 + puts(5, 6, 1) + "take 3;take 4;join 2 1;take 6;", 9);
        c.row("VERSION 4", new int[] {x.version(4, 3), x.size(4), x.least(4)}, 2, 2, 0);
        c.row("VERSION 5", new int[] {x.version(5, 3), x.size(5), x.least(5)}, 0, 1, 1);
        c.row("VERSION 7: once of twice", new int[] {x.version(7, 3), x.times(7, 0), x.least(7)}, 0, 1, 0);
        c.due("that of which it was made stays", x.size(3), 3);
    }

    @Edge(of = "II", says = "if it has no TREES, the HEAP is empty then")
    static void tII_takeOfOneWithoutTrees(Check c) {
        HeapVersions x = c.told(LAW0 + up(2) + "take 1;take 2;take 4;", 7);
        for (int v : new int[] {3, 5}) {
            c.row("it is empty", new int[] {x.size(v), x.parts(v), x.trees(v), x.depth(v), x.links(v)}, 0, 0, 0, 0, 0);
        }
        c.row("not with a TREE", new int[] {x.size(4), x.parts(4)}, 1, 1);
    }

    @Edge(of = "II", says = "else of its TREES the one with the least head")
    static void tII_takeTheTreeWithTheLeastHead(Check c) {
        HeapVersions last = c.told(LAW0 + puts(1, 1, 1) + "take 3;", 6);
        c.row("the last one", new int[] {last.least(4), last.head(4, 0)}, 1, 2);
        HeapVersions first = c.told(LAW0 + puts(1, 3, 2) + "take 3;", 6);
        c.row("the first one", new int[] {first.least(4), first.head(4, 0)}, 2, 1);
        // the TREES t(j5), t(j4), and one of the head j1: j4 is least
        HeapVersions middle = c.told(LAW0 + puts(1, 5, 6, 7, 2, 8) + "take 6;", 9);
        c.row("the one between", new int[] {middle.least(7), middle.size(7), middle.trees(7)}, 4, 5, 2);
        c.row("the others are left", heads(middle, 7), 5, 1);
    }

    @Edge(of = "II", says = "(the first of several) goes out")
    static void tII_takeTheFirstOfSeveral(Check c) {
        // A is VERSION 1, B is VERSION 2; 3 has t(B), t(A), all of j0: t(B) goes out, its t(A) is LINKED with t(A)
        HeapVersions x = c.told(LAW0 + "put 0 3 for 1;join 1 1;join 2 2;take 3;", 6);
        c.row("VERSION 4", new int[] {x.links(4), x.trees(4), x.rank(4, 0), x.holds(4, 0)}, 1, 1, 1, 2);
    }

    @Edge(of = "II", says = "its SUBTREES, the last one first, are MERGED (first) with the TREES that are left")
    static void tII_takeMergesTheSubtreesWithThoseLeft(Check c) {
        HeapVersions x = c.told(LAW1 + up(5) + "take 5;", 8);
        c.row("the last one first", ranks(x, 6), 0, 1);
        c.due("links(6)", x.links(6), 0);
        // 4 has the TREES t'(A) and one of RANK 1 with the SUBTREE t(A): of LINK of t(A), first, and t'(A), that is the SUBTREE
        HeapVersions y = c.told(LAW1 + "put 0 3 for 1;put 1 2 for 1;join 2 2;join 3 1;take 4;", 7);
        c.row("parts(5), shared(5, 4), links(5)", new int[] {y.parts(5), y.shared(5, 4), y.links(5)}, 5, 3, 1);
        c.row("ranks(5)", ranks(y, 5), 0, 1);
    }

    @Edge(of = "II", says = "into these its SINGLES are PUT, one by one")
    static void tII_takePutsTheSinglesOneByOne(Check c) {
        // the SINGLE j3 is put ahead of t(j2), ahead of the last MERGE, which LINKS both
        HeapVersions one = c.told(LAW0 + puts(3, 3, 5, 9) + "take 4;", 7);
        c.row("one SINGLE", new int[] {one.links(5), one.trees(5), one.rank(5, 0), one.head(5, 0)}, 1, 1, 1, 2);
        HeapVersions two = c.told(LAW0 + puts(1, 2, 1, 1, 3, 3, 3, 2) + "take 8;", 11);
        c.row("two, the first one first", new int[] {two.size(9), two.own(9), two.singles(9, 0), two.holds(9, 0)}, 7, 3, 1, 6);
    }

    @Edge(of = "II", says = "then a new HEAP: the JOB of the head, and MERGE of the head's QUEUE (first) and of these")
    static void tII_takeMakesANewHeap(Check c) {
        HeapVersions x = c.told(LAW0 + puts(3, 8) + "take 2;", 5);
        c.row("another HEAP of j1", new int[] {x.least(3), x.own(3), x.shared(3, 2)}, 1, 1, 0);
        HeapVersions y = c.told(LAW0 + "put 0 3 for 1;join 1 1;put 2 1 for 1;join 2 3;take 4;", 7);
        c.row("the head's QUEUE first", new int[] {y.least(5), y.parts(5), y.shared(5, 4)}, 0, 6, 4);
    }

    // ---- CELLS

    @Edge(of = "II", says = "CELLS of a VERSION: all HEAPS (not empty) and TREES that are in it: itself, its QUEUE, their heads, "
            + "SINGLES, SUBTREES, and so on")
    static void tII_cellsAreAllHeapsAndTreesInIt(Check c) {
        HeapVersions x = c.told(LAW0 + up(8), 10);
        c.row("parts", new int[] {x.parts(0), x.parts(1), x.parts(2), x.parts(3), x.parts(4), x.parts(5)}, 0, 1, 3, 5, 6, 8);
        // a TREE of RANK 2: two SINGLES, a SUBTREE of RANK 1 with a SINGLE and t(j5), and t(j2)
        c.due("parts(8)", x.parts(8), 12);
        HeapVersions y = c.told(LAW1 + puts(9, 8, 7, 6), 6);
        c.due("HEAPS in HEAPS: four, and three TREES", y.parts(4), 7);
    }

    @Edge(of = "II", says = "; each once.")
    static void tII_eachCellOnce(Check c) {
        HeapVersions x = c.told(LAW0 + "put 0 5 for 1;join 1 1;join 2 1;join 3 3;", 6);
        c.due("parts(2): two HEAPS, a TREE", x.parts(2), 3);
        c.row("parts(3): A is the head of both TREES", new int[] {x.size(3), x.parts(3)}, 3, 4);
        // a new HEAP and a TREE with the head 3, the SINGLE A and the SUBTREE t(A), which 3 has, too
        c.row("parts(4)", new int[] {x.size(4), x.parts(4), x.own(4)}, 6, 6, 2);
    }

    @Edge(of = "II", says = "Two CELLS are the same only if they were made as one")
    static void tII_twoCellsAreTheSameOnlyIfMadeAsOne(Check c) {
        // 4 is j0 with t(j1), as 2 is; t(j1) and j1 are the same, the HEAP is not
        HeapVersions x = c.told(LAW0 + puts(5, 7, 1) + "take 3;", 6);
        c.row("VERSION 4", new int[] {x.same(4, 2), x.parts(4), x.shared(4, 2), x.own(4)}, 1, 3, 2, 1);
        HeapVersions y = c.told(LAW0 + "put 0 5 for 1;put 0 7 for 1;join 1 2;join 1 2;", 6);
        c.row("two joins alike", new int[] {y.same(3, 4), y.parts(3), y.shared(3, 4)}, 1, 3, 1);
    }

    @Edge(of = "II", says = "(a new HEAP, a new TREE is another CELL; what stands in it stays what it is)")
    static void tII_aNewOneIsAnotherCell(Check c) {
        HeapVersions x = c.told(LAW0 + up(4), 6);
        c.row("shared(3, 2): t(j1) and j1", new int[] {x.shared(3, 2), x.own(3)}, 2, 3);
        c.row("shared(4, 3): j1, t(j2) and j2", new int[] {x.shared(4, 3), x.own(4)}, 3, 3);
        HeapVersions y = c.told(LAW1 + up(3), 5);
        c.row("shared(3, 2) by LAW 1: j1, whose TREE is LINKED", new int[] {y.shared(3, 2), y.own(3)}, 1, 4);
    }
}

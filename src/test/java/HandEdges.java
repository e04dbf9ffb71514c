/** Terms IV and promises 34 to 37: JOBS done by HANDS. */
final class HandEdges {
    private static final int MOST = Integer.MAX_VALUE;
    private static final int LEAST = Integer.MIN_VALUE;
    /** VERSION 5 has, in order, JOBS of the KEYS 2, 4, 4, 5, 20 and the TIMES 3, 4, 1, 4, 2. */
    private static final String LINES = "new;put 0 4 for 4;put 1 2 for 3;put 2 20 for 2;put 3 4 for 1;put 4 5 for 4;";
    /** VERSIONS 0 to 6 have 0, 1, 2, 4, 8, 16, 24 times one JOB of KEY 2 and TIME 1. */
    private static final String FULL = "plan law 0 hands 1;new;put 0 2 for 1;join 1 1;join 2 2;join 3 3;join 4 4;join 5 4;";

    private HandEdges() {
    }

    private static HeapVersions by(Check c, int hands) {
        return c.told("plan law 0 hands " + hands + ";" + LINES, 7);
    }

    private static int[] hand(HeapVersions x, int version) {
        int[] hand = new int[x.size(version)];
        for (int i = 0; i < hand.length; i++) {
            hand[i] = x.hand(version, i);
        }
        return hand;
    }

    private static int[] ends(HeapVersions x, int version) {
        int[] ends = new int[x.size(version)];
        for (int i = 0; i < ends.length; i++) {
            ends[i] = x.ends(version, i);
        }
        return ends;
    }

    private static int[] done(HeapVersions x, int version) {
        return new int[] {x.done(version, 0), x.done(version, 1), x.done(version, 2), x.done(version, 3)};
    }

    // ---- Terms IV

    @Edge(of = "IV", says = "JOBS of a VERSION are done in order, from moment 0 on")
    static void tIV_inOrderFromMoment0On(Check c) {
        HeapVersions x = by(c, 1);
        c.row("ends, in order by KEY", ends(x, 5), 3, 7, 8, 12, 14);
        c.due("the first JOB begins at 0, whatever its KEY is", x.ends(1, 0), 4);
        HeapVersions late = c.told("plan law 0 hands 1;new;put 0 999 for 1;", 3);
        c.due("a JOB waits for no KEY", late.ends(1, 0), 1);
    }

    @Edge(of = "IV", says = ", HANDS told")
    static void tIV_handsTold(Check c) {
        int[] due = {14, 8, 5, 4};
        for (int hands = 1; hands <= 4; hands++) {
            c.due("done by " + hands, by(c, hands).done(5, 0), due[hands - 1]);
        }
        c.row("three HANDS", hand(by(c, 3), 5), 0, 1, 2, 2, 0);
        c.row("as many HANDS as JOBS, and one more", hand(by(c, 4), 3), 0, 1, 2);
    }

    @Edge(of = "IV", says = ": each by the HAND that is free first")
    static void tIV_byTheHandThatIsFreeFirst(Check c) {
        HeapVersions x = by(c, 4);
        c.row("HAND 2 is free at 1", hand(x, 5), 0, 1, 2, 3, 2);
        c.row("ends", ends(x, 5), 3, 4, 1, 4, 3);
        HeapVersions last = c.told("plan law 0 hands 4;new;put 0 1 for 9;put 1 2 for 8;put 2 3 for 7;put 3 4 for 6;"
                + "put 4 5 for 2;put 5 6 for 1;", 8);
        c.row("the last HAND is free at 6, the third one at 7", hand(last, 6), 0, 1, 2, 3, 3, 2);
    }

    @Edge(of = "IV", says = "(of several by the least number, 0 on)")
    static void tIV_ofSeveralByTheLeastNumber(Check c) {
        c.row("all are free at 0", hand(by(c, 4), 2), 0, 1);
        c.row("both are free at 4", hand(by(c, 2), 5), 0, 1, 0, 0, 1);
        HeapVersions x = c.told("plan law 0 hands 3;new;put 0 1 for 5;put 1 2 for 3;put 2 3 for 3;put 3 4 for 1;"
                + "put 4 5 for 9;", 7);
        c.row("1 and 2 are free at 3", hand(x, 5), 0, 1, 2, 1, 2);
        HeapVersions full = c.told(FULL.replace("hands 1", "hands 4"), 8);
        for (int i = 0; i < 24; i++) {
            c.due("hand(6, " + i + ")", full.hand(6, i), i % 4);
        }
    }

    @Edge(of = "IV", says = ", for its TIME")
    static void tIV_forItsTime(Check c) {
        HeapVersions x = c.told("plan law 0 hands 1;new;put 0 1 for 99;put 1 2 for 1;put 2 3 for 99;", 5);
        c.row("ends", ends(x, 3), 99, 100, 199);
        HeapVersions y = c.told("plan law 0 hands 1;new;put 0 0 for 99;join 1 1;join 2 2;join 3 3;join 4 4;join 5 4;", 8);
        c.due("24 of the longest TIME", y.done(6, 0), 24 * 99);
    }

    @Edge(of = "IV", says = "it is LATE, if it is done behind its KEY")
    static void tIV_lateIfDoneBehindItsKey(Check c) {
        HeapVersions x = c.told("plan law 0 hands 1;new;put 0 5 for 4;put 0 5 for 5;put 0 5 for 6;put 0 0 for 1;"
                + "put 0 99 for 99;", 7);
        c.due("done ahead of its KEY", x.done(1, 1), 0);
        c.due("done at its KEY", x.done(2, 1), 0);
        c.due("done 1 behind its KEY", x.done(3, 1), 1);
        c.due("KEY 0", x.done(4, 1), 1);
        c.due("KEY 99 for 99", x.done(5, 1), 0);
    }

    @Edge(of = "IV", says = "(by how much: the difference)")
    static void tIV_byHowMuchTheDifference(Check c) {
        HeapVersions x = c.told("plan law 0 hands 1;new;put 0 5 for 6;put 0 0 for 99;put 1 5 for 10;put 1 900 for 1;", 6);
        c.row("LATE by 1", done(x, 1), 6, 1, 1, 1);
        c.row("LATE by 99", done(x, 2), 99, 1, 99, 99);
        c.row("LATE by 1 and by 11", done(x, 3), 16, 2, 12, 11);
        c.row("what is done ahead of its KEY takes nothing off", done(x, 4), 7, 1, 1, 1);
    }

    // ---- promises 34 to 37

    @Edge(of = "34", says = "JOBS of a VERSION are done (IV), what 0: when all are done")
    static void p34_whenAllAreDone(Check c) {
        c.due("by one HAND", by(c, 1).done(5, 0), 14);
        c.due("by two: not the last JOB in order is done last", by(c, 2).done(5, 0), 8);
        c.due("an empty one", by(c, 1).done(0, 0), 0);
        c.due("one JOB alone", by(c, 4).done(1, 0), 4);
    }

    @Edge(of = "34", says = ", 1: how many are LATE, 2: by how much, together, 3: the most by which one is")
    static void p34_howManyAreLateByHowMuch(Check c) {
        c.row("by one HAND", done(by(c, 1), 5), 14, 4, 15, 7);
        c.row("by two", done(by(c, 2), 5), 8, 2, 4, 3);
        c.row("by four", done(by(c, 4), 5), 4, 1, 1, 1);
        HeapVersions x = c.told("plan law 1 hands 1;new;put 0 0 for 99;join 1 1;join 2 2;join 3 3;join 4 4;join 5 4;", 8);
        c.row("24 JOBS of KEY 0 for 99", done(x, 6), 2376, 24, 99 * 300, 2376);
        HeapVersions y = c.told("plan law 0 hands 1;new;put 0 5 for 20;put 1 19 for 1;put 2 40 for 1;", 5);
        c.row("LATE by 15, by 2, not", done(y, 3), 22, 2, 17, 15);
    }

    @Edge(of = "34", says = "(0: none is)")
    static void p34_0NoneIs(Check c) {
        HeapVersions x = c.told("plan law 0 hands 1;new;put 0 5 for 5;put 1 9 for 4;", 4);
        c.row("an empty one", done(x, 0), 0, 0, 0, 0);
        c.row("none is LATE", done(x, 2), 9, 0, 0, 0);
    }

    @Edge(of = "34", says = "-2: there are none such")
    static void p34_minus2ThereAreNoneSuch(Check c) {
        for (int what = 0; what < 4; what++) {
            int asked = what;
            Missing.versions(c, "done(v, " + what + ")", (x, v) -> x.done(v, asked));
        }
        HeapVersions x = by(c, 2);
        for (int what : new int[] {-1, 4, 5, MOST, LEAST}) {
            c.due("done(5, " + what + ")", x.done(5, what), -2);
            c.due("done(0, " + what + ")", x.done(0, what), -2);
        }
    }

    @Edge(of = "35", says = "The HAND that does its JOB i (from 0) in order")
    static void p35_theHandThatDoesItsJobI(Check c) {
        c.row("by one", hand(by(c, 1), 5), 0, 0, 0, 0, 0);
        c.row("by two", hand(by(c, 2), 5), 0, 1, 0, 0, 1);
        c.due("the 24th", c.told(FULL.replace("hands 1", "hands 4"), 8).hand(6, 23), 3);
    }

    @Edge(of = "35", says = "NONE: there are not so many")
    static void p35_noneThereAreNotSoMany(Check c) {
        HeapVersions x = c.told(FULL, 8);
        int[] sizes = {0, 1, 2, 4, 8, 16, 24};
        x.hand(6, 23);
        for (int v = 0; v < 7; v++) {
            c.due("hand(" + v + ", size)", x.hand(v, sizes[v]), -1);
            c.due("hand(" + v + ", 24)", x.hand(v, 24), -1);
            c.due("hand(" + v + ", most)", x.hand(v, MOST), -1);
        }
    }

    @Edge(of = "35", says = "-2: there is no such VERSION")
    static void p35_minus2ThereIsNoSuchVersion(Check c) {
        Missing.versions(c, "hand(v, 0)", (x, v) -> x.hand(v, 0));
        Missing.versions(c, "hand(v, 24)", (x, v) -> x.hand(v, 24));
    }

    @Edge(of = "35", says = ", i is below 0")
    static void p35_minus2IIsBelow0(Check c) {
        Missing.below0(c, "hand(2, i)", (x, i) -> x.hand(2, i));
        c.due("hand(0, -1) of an empty one", by(c, 1).hand(0, -1), -2);
    }

    @Edge(of = "36", says = "When that one is done")
    static void p36_whenThatOneIsDone(Check c) {
        c.row("by two", ends(by(c, 2), 5), 3, 4, 4, 8, 6);
        HeapVersions x = c.told(FULL, 8);
        c.due("the first", x.ends(6, 0), 1);
        c.due("the 24th", x.ends(6, 23), 24);
    }

    @Edge(of = "36", says = "NONE, -2 likewise")
    static void p36_noneAndMinus2Likewise(Check c) {
        HeapVersions x = c.told(FULL, 8);
        int[] sizes = {0, 1, 2, 4, 8, 16, 24};
        x.ends(6, 23);
        for (int v = 0; v < 7; v++) {
            c.due("ends(" + v + ", size)", x.ends(v, sizes[v]), -1);
            c.due("ends(" + v + ", 24)", x.ends(v, 24), -1);
            c.due("ends(" + v + ", most)", x.ends(v, MOST), -1);
        }
        Missing.versions(c, "ends(v, 0)", (y, v) -> y.ends(v, 0));
        Missing.versions(c, "ends(v, 24)", (y, v) -> y.ends(v, 24));
        Missing.below0(c, "ends(2, i)", (y, i) -> y.ends(2, i));
        c.due("ends(0, -1) of an empty one", x.ends(0, -1), -2);
    }

    @Edge(of = "37", says = "Fewest HANDS (1 .. 8) by which no JOB of a VERSION is LATE")
    static void p37_fewestHands(Check c) {
        // each HAND does two of these JOBS in time
        HeapVersions x = c.told(FULL, 8);
        c.row("hands", new int[] {x.hands(0), x.hands(1), x.hands(2), x.hands(3), x.hands(4), x.hands(5)}, 1, 1, 1, 2, 4, 8);
        HeapVersions y = c.told(FULL.replace("hands 1", "hands 4"), 8);
        c.row("whatever is told", new int[] {y.hands(0), y.hands(2), y.hands(3), y.hands(5)}, 1, 1, 2, 8);
        c.due("joins(3, 1)", x.joins(3, 1), 7);
        c.due("five need three", x.hands(7), 3);
        c.due("joins(4, 7)", x.joins(4, 7), 8);
        c.due("thirteen need seven", x.hands(8), 7);
        c.due("HANDS told are as they were", x.count(1), 1);
        c.due("done(3, 0) is by those told", x.done(3, 0), 4);
    }

    @Edge(of = "37", says = "NONE: not by eight")
    static void p37_noneNotByEight(Check c) {
        HeapVersions x = c.told(FULL, 8);
        c.due("16 by eight", x.hands(5), 8);
        c.due("24", x.hands(6), -1);
        c.due("joins(5, 1)", x.joins(5, 1), 7);
        c.due("17", x.hands(7), -1);
        HeapVersions y = c.told("plan law 0 hands 1;new;put 0 0 for 1;put 0 98 for 99;put 0 99 for 99;", 5);
        c.row("one JOB that no HAND does in time", new int[] {y.hands(1), y.hands(2), y.hands(3)}, -1, -1, 1);
    }

    @Edge(of = "37", says = "-2: there is no such VERSION")
    static void p37_minus2ThereIsNoSuchVersion(Check c) {
        Missing.versions(c, "hands", HeapVersions::hands);
    }
}

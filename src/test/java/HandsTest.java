/** Promises 34 to 37: JOBS done by HANDS. */
public final class HandsTest {
    private static final Check CHECK = new Check("HandsTest");
    private static final int MOST = Integer.MAX_VALUE;
    private static final int LEAST = Integer.MIN_VALUE;
    /** VERSION 5 has, in order, JOBS of the KEYS 2, 4, 4, 5, 20 and the TIMES 3, 4, 1, 4, 2. */
    private static final String LINES = "new;put 0 4 for 4;put 1 2 for 3;put 2 20 for 2;put 3 4 for 1;put 4 5 for 4;";

    public static void main(String[] args) {
        byOneHand();
        byTwoHands();
        byFourHands();
        fewestHands();
        keysAndEnds();
        wrongInputs();
        CHECK.finish();
    }

    private static void check(HeapVersions x, int version, int[] hand, int[] ends, int... done) {
        for (int i = 0; i < hand.length; i++) {
            CHECK.due("hand(" + version + ", " + i + ")", x.hand(version, i), hand[i]);
            CHECK.due("ends(" + version + ", " + i + ")", x.ends(version, i), ends[i]);
        }
        CHECK.due("hand behind the last", x.hand(version, hand.length), -1);
        CHECK.due("ends behind the last", x.ends(version, hand.length), -1);
        for (int what = 0; what < 4; what++) {
            CHECK.due("done(" + version + ", " + what + ")", x.done(version, what), done[what]);
        }
    }

    private static void byOneHand() {
        HeapVersions x = Check.planned("plan law 0 hands 1;" + LINES);
        check(x, 5, new int[] {0, 0, 0, 0, 0}, new int[] {3, 7, 8, 12, 14}, 14, 4, 15, 7);
        check(x, 0, new int[] {}, new int[] {}, 0, 0, 0, 0);
        check(x, 1, new int[] {0}, new int[] {4}, 4, 0, 0, 0);
    }

    private static void byTwoHands() {
        HeapVersions x = Check.planned("plan law 1 hands 2;" + LINES);
        // HAND 0 is free at 3, does the third till 4; both are free at 4, HAND 0 has the least number
        check(x, 5, new int[] {0, 1, 0, 0, 1}, new int[] {3, 4, 4, 8, 6}, 8, 2, 4, 3);
    }

    private static void byFourHands() {
        HeapVersions x = Check.planned("plan law 0 hands 4;" + LINES);
        check(x, 5, new int[] {0, 1, 2, 3, 2}, new int[] {3, 4, 1, 4, 3}, 4, 1, 1, 1);
        check(x, 2, new int[] {0, 1}, new int[] {3, 4}, 4, 1, 1, 1);
    }

    private static void fewestHands() {
        HeapVersions x = Check.planned("plan law 0 hands 1;new;put 0 2 for 1;join 1 1;join 2 2;join 3 3;join 4 4;put 0 1 for 2;"
                + "join 4 1;put 0 0 for 1;join 3 2;join 5 1;join 3 1;");
        // of JOBS of KEY 2 and TIME 1 each HAND does two in time
        CHECK.due("hands(0): none is LATE", x.hands(0), 1);
        CHECK.due("hands(1)", x.hands(1), 1);
        CHECK.due("hands(2)", x.hands(2), 1);
        CHECK.due("hands(11)", x.hands(11), 3);
        CHECK.due("hands(3)", x.hands(3), 2);
        CHECK.due("hands(9)", x.hands(9), 3);
        CHECK.due("hands(4)", x.hands(4), 4);
        CHECK.due("hands(7)", x.hands(7), 5);
        CHECK.due("hands(5): eight do", x.hands(5), 8);
        CHECK.due("hands(10): not by eight", x.hands(10), -1);
        CHECK.due("hands(6): never", x.hands(6), -1);
        CHECK.due("hands(8): done behind KEY 0", x.hands(8), -1);
    }

    private static void keysAndEnds() {
        HeapVersions x = Check.planned("plan law 0 hands 1;new;put 0 99 for 99;put 0 98 for 99;put 0 0 for 1;");
        check(x, 1, new int[] {0}, new int[] {99}, 99, 0, 0, 0);
        check(x, 2, new int[] {0}, new int[] {99}, 99, 1, 1, 1);
        check(x, 3, new int[] {0}, new int[] {1}, 1, 1, 1, 1);
        CHECK.due("hands(1)", x.hands(1), 1);
        CHECK.due("hands(2)", x.hands(2), -1);
    }

    private static void wrongInputs() {
        HeapVersions x = Check.planned("plan law 0 hands 2;" + LINES);
        for (int v : new int[] {-1, 6, MOST, LEAST}) {
            CHECK.due("done(" + v + ", 0)", x.done(v, 0), -2);
            CHECK.due("hand(" + v + ", 0)", x.hand(v, 0), -2);
            CHECK.due("ends(" + v + ", 0)", x.ends(v, 0), -2);
            CHECK.due("hands(" + v + ")", x.hands(v), -2);
        }
        for (int i : new int[] {-1, LEAST, 5, 24, MOST}) {
            CHECK.due("hand(5, " + i + ")", x.hand(5, i), i < 0 ? -2 : -1);
            CHECK.due("ends(5, " + i + ")", x.ends(5, i), i < 0 ? -2 : -1);
        }
        for (int what : new int[] {-1, 4, MOST, LEAST}) {
            CHECK.due("done(5, " + what + ")", x.done(5, what), -2);
        }
    }
}

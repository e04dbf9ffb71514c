/** Promises 1 to 6: a new object, the TAPE, the PLAN and its FAULTS, counts. */
public final class TextTest {
    private static final Check CHECK = new Check("TextTest");
    private static final String PLAN = "plan law 1 hands 3;";
    /** VERSIONS 0 to 6 have 0, 1, 2, 4, 8, 16, 24 JOBS. */
    private static final String FULL = "plan law 0 hands 1;new;put 0 5 for 1;join 1 1;join 2 2;join 3 3;join 4 4;join 5 4;";

    public static void main(String[] args) {
        newObject();
        tape();
        planCounts();
        planAgain();
        soundTexts();
        faultsOfTokens();
        faultsOfNumbers();
        faultsOfVersions();
        faultsBehindOtherTexts();
        CHECK.finish();
    }

    private static void newObject() {
        HeapVersions x = new HeapVersions();
        CHECK.due("NONE", HeapVersions.NONE, -1);
        CHECK.row("count", Check.counts(x), 0, 0, 0, 0, 0, 0, 0, 0);
        CHECK.due("fault(0)", x.fault(0), 0);
        CHECK.due("fault(1)", x.fault(1), -1);
        CHECK.due("all()", x.all(), -2);
        CHECK.due("lean()", x.lean(), -2);
        CHECK.due("undo()", x.undo(), -2);
        CHECK.due("anew()", x.anew(), -2);
        CHECK.due("size(0)", x.size(0), -2);
        CHECK.due("plan()", x.plan(), 0);
        CHECK.due("all() behind an empty plan", x.all(), -2);
    }

    private static void tape() {
        HeapVersions x = new HeapVersions();
        CHECK.due("end(0)", x.end(0), 0);
        CHECK.due("end(1)", x.end(1), -1);
        CHECK.due("end(-1)", x.end(-1), -1);
        CHECK.due("feed", x.feed(-1, -1, -1, -1, -1), 20);
        CHECK.due("end(21)", x.end(21), -1);
        CHECK.due("count(7)", x.count(7), 20);
        CHECK.due("end(-1)", x.end(-1), -1);
        CHECK.due("end(20)", x.end(20), 20);
        CHECK.due("end(3)", x.end(3), 3);
        CHECK.due("count(7)", x.count(7), 3);
        CHECK.due("end(4)", x.end(4), -1);
        for (int n = 23; n <= 583; n += 20) {
            CHECK.due("feed", x.feed(0, 0, 0, 0, 0), n);
        }
        CHECK.due("feed beyond 600", x.feed(0, 0, 0, 0, 0), -1);
        CHECK.due("count(7)", x.count(7), 583);
        CHECK.due("end(581)", x.end(581), 581);
        CHECK.due("feed beyond 600", x.feed(0, 0, 0, 0, 0), -1);
        CHECK.due("end(580)", x.end(580), 580);
        CHECK.due("feed to 600", x.feed(0, 0, 0, 0, 0), 600);
        CHECK.due("end(600)", x.end(600), 600);
        CHECK.due("feed beyond 600", x.feed(0, 0, 0, 0, 0), -1);
        x.end(0);
        int word = 'p' << 24 | 'l' << 16 | 'a' << 8 | 'n';
        x.feed(word, ' ' << 24 | 'l' << 16 | 'a' << 8 | 'w', ' ' << 24 | '0' << 16 | 'h' << 8 | 'a',
                'n' << 24 | 'd' << 16 | 's' << 8 | '2', ';' << 24 | ' ' << 16 | 10 << 8 | ' ');
        CHECK.due("plan() of the highest byte first", x.plan(), 1);
        CHECK.due("count(1)", x.count(1), 2);
        CHECK.due("count(7): the TAPE is empty", x.count(7), 0);
    }

    private static void planCounts() {
        HeapVersions x = new HeapVersions();
        Check.tell(x, PLAN + "new;put 0 5 for 1;put 1 4 for 2;join 1 2;take 3;");
        CHECK.due("plan()", x.plan(), 6);
        CHECK.row("count", Check.counts(x), 1, 3, 5, 2, 5, 0, 6, 0);
        x.puts(4, 9, 9);
        x.joins(0, 1);
        x.takes(5);
        CHECK.row("count with acts", Check.counts(x), 1, 3, 8, 3, 5, 3, 6, 0);
        CHECK.due("count(8)", x.count(8), -1);
        CHECK.due("count(-1)", x.count(-1), -1);
        CHECK.due("count(most)", x.count(Integer.MAX_VALUE), -1);
        CHECK.due("fault(0)", x.fault(0), 0);
        CHECK.due("fault(1)", x.fault(1), -1);
        CHECK.due("fault(2)", x.fault(2), -1);
        CHECK.due("fault(-1)", x.fault(-1), -1);
    }

    private static void planAgain() {
        HeapVersions x = Check.planned(PLAN + "new;put 0 5 for 1;");
        x.puts(1, 7, 2);
        Check.tell(x, PLAN + "new;put 0 5 for 1;put 1 4 for 100;");
        CHECK.due("plan() with a FAULT", x.plan(), -4);
        CHECK.due("fault(0)", x.fault(0), 2);
        CHECK.due("fault(1)", x.fault(1), 49);
        CHECK.due("fault(2)", x.fault(2), -1);
        CHECK.row("count: all else stays", Check.counts(x), 1, 3, 3, 2, 2, 1, 3, 0);
        CHECK.due("size(2) stays", x.size(2), 2);
        CHECK.due("job(1, 0) stays", x.job(1, 0), 7);
        Check.tell(x, "plan law 0 hands 4;new;");
        CHECK.due("plan() in place of another", x.plan(), 2);
        CHECK.row("count: no acts", Check.counts(x), 0, 4, 1, 0, 1, 0, 2, 0);
        CHECK.due("fault(0)", x.fault(0), 0);
        CHECK.due("fault(1)", x.fault(1), -1);
        x.puts(0, 1, 1);
        Check.tell(x, " \n ");
        CHECK.due("plan() of blanks", x.plan(), 0);
        CHECK.row("count: there is none", Check.counts(x), 0, 0, 0, 0, 0, 0, 0, 0);
        CHECK.due("undo()", x.undo(), -2);
        Check.tell(x, "plan law 0 hands 4;");
        CHECK.due("plan() of one LINE", x.plan(), 1);
        CHECK.row("count: no VERSIONS", Check.counts(x), 0, 4, 0, 0, 0, 0, 1, 0);
        CHECK.due("all()", x.all(), 0);
        CHECK.due("lean()", x.lean(), 0);
        CHECK.due("undo()", x.undo(), -5);
        CHECK.due("anew()", x.anew(), 0);
        CHECK.due("size(0)", x.size(0), -2);
    }

    private static void soundTexts() {
        CHECK.sound("", 0);
        CHECK.sound(" ", 0);
        CHECK.sound("plan law 0 hands 1;", 1);
        CHECK.sound("\nplan\nlaw 0 hands 4 ;\n \n", 1);
        CHECK.sound("plan law0hands1;new;put0 999for99;put 1 0for1;take2;", 5);
        CHECK.sound("plan law 00 hands 01;new;put 000000000000 0999 for 0099;", 3);
        CHECK.sound(FULL, 8);
        CHECK.sound(FULL + "join 6 0;join 0 6;take 6;put 9 1 for 1;join 9 1;", 13);
        CHECK.sound(PLAN + "new;".repeat(20), 21);
        CHECK.sound(PLAN + "new;".repeat(20) + " ".repeat(501), 21);
    }

    private static void faultsOfTokens() {
        CHECK.fault(1, "^new;");
        CHECK.fault(1, "^;");
        CHECK.fault(1, "^0");
        CHECK.fault(1, "  ^planx law 0 hands 1;");
        CHECK.fault(1, "^Plan law 0 hands 1;");
        CHECK.fault(1, "plan ^hands 0 law 1;");
        CHECK.fault(1, "plan law ^;");
        CHECK.fault(1, "plan law ^x hands 1;");
        CHECK.fault(1, "plan law 0 ^law 1;");
        CHECK.fault(1, "plan law 0 hands ^hands;");
        CHECK.fault(1, "plan law 0 hands 1 ^new;");
        CHECK.fault(1, "plan law 0 hands 1^");
        CHECK.fault(1, "plan law 0 hands 1 \n ^");
        CHECK.fault(1, "plan ^");
        CHECK.fault(1, PLAN + "^;");
        CHECK.fault(1, PLAN + "new;^;");
        CHECK.fault(1, PLAN + "^plan law 1 hands 3;");
        CHECK.fault(1, PLAN + "^newnew;");
        CHECK.fault(1, PLAN + "^ne;");
        CHECK.fault(1, PLAN + "^xew;");
        CHECK.fault(1, PLAN + "^nex;");
        CHECK.fault(1, PLAN + "^newz;");
        CHECK.fault(1, PLAN + "^anew;");
        CHECK.fault(1, PLAN + "^`;");
        CHECK.fault(1, PLAN + "new^{;");
        CHECK.fault(1, PLAN + "new;put ^/ 5 for 1;");
        CHECK.fault(1, PLAN + "new;put 0^: 5 for 1;");
        CHECK.fault(1, PLAN + "^7;");
        CHECK.fault(1, PLAN + "new ^0;");
        CHECK.fault(1, PLAN + "new^");
        CHECK.fault(1, PLAN + "new;take^");
        CHECK.fault(1, PLAN + "new;put 0 5 ^4 1;");
        CHECK.fault(1, PLAN + "new;put 0 5 ^forx 1;");
        CHECK.fault(1, PLAN + "new;put 0 5 for ^for;");
        CHECK.fault(1, PLAN + "new;put 0 ^- 5 for 1;");
        CHECK.fault(1, PLAN + "new;put 0 5 for 1 ^2;");
        CHECK.fault(1, PLAN + "new;join 0 ^;");
        CHECK.fault(1, PLAN + "new;join 0 0 ^0;");
        CHECK.fault(1, PLAN + "new;put 0 5 for 1;take 1^,");
        CHECK.fault(1, PLAN + "new;^\tnew;");
        CHECK.fault(1, PLAN + "new;^\r\nnew;");
        CHECK.fault(1, PLAN + "new;^\0");
        CHECK.fault(1, PLAN + "new;^\u00e9;");
        CHECK.fault(1, PLAN + "ne^\u00e9w;".replace("ne^", "^ne"));
    }

    private static void faultsOfNumbers() {
        CHECK.fault(2, "plan law ^2 hands 1;");
        CHECK.fault(2, "plan law ^2 hands 9;");
        CHECK.fault(2, "plan law 1 hands ^0;");
        CHECK.fault(2, "plan law 1 hands ^5;");
        CHECK.fault(2, "plan law 1 hands ^4294967297;");
        CHECK.fault(2, PLAN + "put ^0 5 for 1;");
        CHECK.fault(2, PLAN + "new;put ^1 5 for 1;");
        CHECK.fault(2, PLAN + "new;put 0 ^1000 for 1;");
        CHECK.fault(2, PLAN + "new;put 0 ^18446744073709551616 for 1;");
        CHECK.fault(2, PLAN + "new;put 0 999 for ^0;");
        CHECK.fault(2, PLAN + "new;put 0 999 for ^100;");
        CHECK.fault(2, PLAN + "new;join ^1 0;");
        CHECK.fault(2, PLAN + "new;join 0 ^1;");
        CHECK.fault(2, PLAN + "new;take ^1;");
        CHECK.fault(2, PLAN + "new;take ^0;");
        CHECK.fault(2, PLAN + "new;put 0 1 for 1;take 1;take ^2;");
        CHECK.fault(2, PLAN + "new;take ^0 x");
    }

    private static void faultsOfVersions() {
        CHECK.fault(2, FULL + "put ^6 5 for 1;");
        CHECK.fault(2, FULL + "put ^6 1000 for 1;");
        CHECK.fault(2, FULL + "join 6 ^1;");
        CHECK.fault(2, FULL + "join 1 ^6;");
        CHECK.fault(2, FULL + "join 5 ^5;");
        CHECK.fault(3, PLAN + "new;".repeat(20) + "^new;");
        CHECK.fault(3, PLAN + "new;".repeat(20) + "^put 0 1 for 1;");
        CHECK.fault(3, PLAN + "new;".repeat(20) + "^join x");
        CHECK.fault(3, PLAN + "new;".repeat(20) + "^take 0;");
        CHECK.fault(1, PLAN + "new;".repeat(20) + "^plan law 0 hands 1;");
        CHECK.fault(1, PLAN + "new;".repeat(20) + "^news;");
        CHECK.fault(1, PLAN + "new;".repeat(20) + "^;");
        CHECK.fault(2, PLAN + "new;".repeat(19) + "join 0 ^19;");
    }

    /** What an earlier text told is of no weight for a later one. */
    private static void faultsBehindOtherTexts() {
        HeapVersions x = Check.planned(FULL);
        String[] texts = {"new;take ^1;", "new;take ^6;", "new;put ^6 1 for 1;", "new;join 0 ^1;", "new;put 0 1 for 1;take ^2;"};
        for (String text : texts) {
            Check.tell(x, PLAN + text.replace("^", ""));
            CHECK.due("plan() of " + text, x.plan(), -4);
            CHECK.due("fault(0) of " + text, x.fault(0), 2);
            CHECK.due("fault(1) of " + text, x.fault(1), PLAN.length() + text.indexOf('^'));
            CHECK.due("size(6) stays", x.size(6), 24);
        }
        Check.tell(x, PLAN + "new;put 0 1 for 1;take 1;put 2 3 for 1;");
        CHECK.due("plan()", x.plan(), 5);
        CHECK.due("size(3)", x.size(3), 1);
        CHECK.due("size(4)", x.size(4), -2);
    }
}

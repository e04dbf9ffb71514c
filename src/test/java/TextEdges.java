/** Terms I and promises 1 to 6: the TAPE, the PLAN and its FAULTS, counts. */
final class TextEdges {
    private static final String PLAN = "plan law 1 hands 3;";
    /** VERSIONS 0 to 6 have 0, 1, 2, 4, 8, 16, 24 JOBS. */
    private static final String FULL = "plan law 0 hands 1;new;put 0 5 for 1;join 1 1;join 2 2;join 3 3;join 4 4;join 5 4;";
    private static final String TWENTY = PLAN + "new;".repeat(20);

    private TextEdges() {
    }

    // ---- Terms I: LINES

    @Edge(of = "I", says = "PLAN: {LINE ;}")
    static void tI_aPlanIsLinesEachWithItsSign(Check c) {
        c.sound("", 0);
        c.sound(PLAN, 1);
        c.sound(PLAN + "new;new;", 3);
        c.fault(1, "^;");
        c.fault(1, PLAN + "^;");
        c.fault(1, PLAN + "new;^;new;");
        c.fault(1, PLAN + "new^");
        c.fault(1, PLAN + "new ^new;");
    }

    @Edge(of = "I", says = "LINE: plan law L hands H | new | put V K for T | join V V | take V")
    static void tI_aLineHasItsTokensAndNoOthers(Check c) {
        String ahead = PLAN + "new;put 0 5 for 1;";
        everyCut(c, "", "plan", "law", "0", "hands", "1");
        everyCut(c, ahead, "new");
        everyCut(c, ahead, "put", "0", "7", "for", "9");
        everyCut(c, ahead, "join", "0", "1");
        everyCut(c, ahead, "take", "1");
    }

    /** A LINE is sound; where a TOKEN of it is left out, or one is too many, the next one can't stand there. */
    private static void everyCut(Check c, String ahead, String... tokens) {
        String whole = ahead;
        for (int i = 0; i < tokens.length; i++) {
            if (i > 0) {
                c.fault(1, whole + "^");
                c.fault(1, whole + "^;");
                c.fault(1, whole + "^x;");
                c.fault(1, whole + "^" + (tokens[i].matches("[0-9]+") ? "for" : "1") + ";");
            }
            whole += tokens[i] + " ";
        }
        c.fault(1, whole + "^");
        c.fault(1, whole + "^1;");
        c.fault(1, whole + "^for;");
        c.sound(whole + ";", ahead.isEmpty() ? 1 : 4);
    }

    @Edge(of = "I", says = "plan is the first LINE")
    static void tI_planIsTheFirstLine(Check c) {
        c.fault(1, "^new;");
        c.fault(1, "^put 0 5 for 1;");
        c.fault(1, "^join 0 0;");
        c.fault(1, "^take 0;");
        c.fault(1, "^new;plan law 0 hands 1;");
    }

    @Edge(of = "I", says = "and no other")
    static void tI_planIsNoOtherLine(Check c) {
        c.fault(1, PLAN + "^plan law 1 hands 3;");
        c.fault(1, PLAN + "new;^plan law 1 hands 3;");
        c.fault(1, TWENTY + "^plan law 1 hands 3;");
    }

    @Edge(of = "I", says = "L 0, 1")
    static void tI_lawIs0Or1(Check c) {
        c.due("LAW 0", c.told("plan law 0 hands 1;", 1).count(0), 0);
        c.due("LAW 1", c.told("plan law 1 hands 1;", 1).count(0), 1);
        c.fault(2, "plan law ^2 hands 1;");
        c.fault(2, "plan law ^10 hands 1;");
    }

    @Edge(of = "I", says = "H 1 .. 4")
    static void tI_handsAre1To4(Check c) {
        for (int hands = 1; hands <= 4; hands++) {
            c.due("HANDS", c.told("plan law 0 hands " + hands + ";", 1).count(1), hands);
        }
        c.fault(2, "plan law 0 hands ^0;");
        c.fault(2, "plan law 0 hands ^5;");
    }

    @Edge(of = "I", says = "Each other LINE makes the next VERSION, 0 on")
    static void tI_versionsFrom0On(Check c) {
        c.due("VERSIONS of plan alone", c.told(PLAN, 1).count(2), 0);
        HeapVersions x = c.told(PLAN + "new;put 0 5 for 1;join 1 1;take 2;", 5);
        c.due("VERSIONS", x.count(2), 4);
        for (int v = 0; v < 4; v++) {
            c.due("version(" + v + ", 0)", x.version(v, 0), v);
        }
        c.due("version(4, 0)", x.version(4, 0), -2);
    }

    @Edge(of = "I", says = "(20 at most)")
    static void tI_20VersionsAtMost(Check c) {
        c.due("VERSIONS", c.told(TWENTY, 21).count(2), 20);
        c.fault(3, TWENTY + "^new;");
    }

    @Edge(of = "I", says = "V: a VERSION of a LINE ahead")
    static void tI_vIsOfALineAhead(Check c) {
        c.fault(2, PLAN + "put ^0 5 for 1;");
        c.fault(2, PLAN + "join ^0 0;");
        c.fault(2, PLAN + "take ^0;");
        c.fault(2, PLAN + "new;put ^1 5 for 1;");
        c.fault(2, PLAN + "new;join ^1 0;");
        c.fault(2, PLAN + "new;join 0 ^1;");
        c.fault(2, PLAN + "new;put 0 5 for 1;take ^2;");
        c.fault(2, PLAN + "new;put ^1 5 for 1;new;");
        c.sound(PLAN + "new;put 0 5 for 1;put 1 5 for 1;join 2 2;take 3;", 6);
        c.sound(PLAN + "new;".repeat(19) + "join 18 18;", 21);
        c.fault(2, PLAN + "new;".repeat(19) + "join 18 ^19;");
        // VERSIONS of an earlier PLAN are none of this one
        HeapVersions x = c.told(FULL, 8);
        for (String line : new String[] {"take 1;", "take 6;", "put 6 1 for 1;", "join 1 0;", "join 0 1;"}) {
            Check.tell(x, PLAN + "new;" + line);
            c.due("plan() of " + line, x.plan(), -4);
            c.due("fault(0) of " + line, x.fault(0), 2);
        }
    }

    @Edge(of = "I", says = "put: the next JOB, 0 on,")
    static void tI_jobsFrom0On(Check c) {
        HeapVersions x = c.told(PLAN + "new;put 0 50 for 1;new;put 1 60 for 1;take 3;put 0 70 for 1;", 7);
        c.due("JOBS", x.count(3), 3);
        c.due("job of VERSION 1", x.version(1, 3), 0);
        c.due("job of VERSION 3", x.version(3, 3), 1);
        c.due("job of VERSION 5", x.version(5, 3), 2);
        c.due("KEY of JOB 2", x.job(2, 0), 70);
        c.due("job(3, 0)", x.job(3, 0), -2);
    }

    @Edge(of = "I", says = "of KEY K 0 .. 999")
    static void tI_keyIs0To999(Check c) {
        HeapVersions x = c.told(PLAN + "new;put 0 0 for 1;put 1 999 for 1;", 4);
        c.due("KEY 0", x.job(0, 0), 0);
        c.due("KEY 999", x.job(1, 0), 999);
        c.fault(2, PLAN + "new;put 0 ^1000 for 1;");
    }

    @Edge(of = "I", says = "and TIME T 1 .. 99")
    static void tI_timeIs1To99(Check c) {
        HeapVersions x = c.told(PLAN + "new;put 0 5 for 1;put 1 5 for 99;", 4);
        c.due("TIME 1", x.job(0, 1), 1);
        c.due("TIME 99", x.job(1, 1), 99);
        c.fault(2, PLAN + "new;put 0 5 for ^0;");
        c.fault(2, PLAN + "new;put 0 5 for ^100;");
    }

    @Edge(of = "I", says = "A VERSION has at most 24 JOBS")
    static void tI_aVersionHas24JobsAtMost(Check c) {
        c.due("16 and 8", c.told(FULL, 8).size(6), 24);
        c.due("24 and none", c.told(FULL + "join 6 0;join 0 6;", 10).size(8), 24);
        c.due("one put to 23", c.told(FULL + "take 6;put 7 5 for 1;", 10).size(8), 24);
        c.due("23 and 1", c.told(FULL + "take 6;join 1 7;", 10).size(8), 24);
        c.fault(2, FULL + "join 6 ^1;");
        c.fault(2, FULL + "put ^6 5 for 1;");
        c.fault(2, FULL + "take 6;join 7 ^2;");
    }

    @Edge(of = "I", says = "take: V is not empty")
    static void tI_nothingIsTakenOfAnEmptyOne(Check c) {
        c.due("take of one JOB", c.told(PLAN + "new;put 0 5 for 1;take 1;", 4).size(2), 0);
        c.fault(2, PLAN + "new;take ^0;");
        c.fault(2, PLAN + "new;put 0 5 for 1;take 1;take ^2;");
        c.fault(2, PLAN + "new;join 0 0;take ^1;");
    }

    // ---- Terms I: TOKENS

    @Edge(of = "I", says = "TOKENS, blanks (32, 10) aside")
    static void tI_blanksAre32And10(Check c) {
        c.sound(" \n plan\nlaw  1\n\nhands 3 \n;\n new ; \n", 2);
        c.sound("plan law1hands3;new;put0 5for1;", 3);
        for (int sign : new int[] {0, 9, 11, 12, 13, 31, 33, 160}) {
            c.fault(1, PLAN + "new;^" + (char) sign);
            c.fault(1, "plan^" + (char) sign + "law 1 hands 3;");
        }
        c.fault(2, PLAN + "new;put 0 5 for 1;put 0 ^1000 for 1;");
        c.fault(1, PLAN + "new;put 0 100 ^0 for 1;");
        c.fault(1, PLAN + "^n ew;");
    }

    @Edge(of = "I", says = ", the longest:")
    static void tI_tokensAreTheLongest(Check c) {
        c.fault(1, PLAN + "^newnew;");
        c.fault(1, PLAN + "^newz;");
        c.fault(1, PLAN + "^ne;");
        c.fault(1, "^planlaw 1 hands 3;");
        c.fault(1, PLAN + "new;put 0 5 ^forx 1;");
        c.due("KEY 12", c.told(PLAN + "new;put 0 12 for 1;", 3).job(0, 0), 12);
        c.fault(1, PLAN + "new;put 00 ^for 1;");
        c.fault(2, PLAN + "new;put ^05 for 1;");
    }

    @Edge(of = "I", says = "words (a .. z)")
    static void tI_wordsAreOfTheLettersAToZ(Check c) {
        c.fault(1, PLAN + "^`;");
        c.fault(1, PLAN + "^{;");
        c.fault(1, PLAN + "new^`;");
        c.fault(1, PLAN + "new^{;");
        c.fault(1, "^PLAN law 0 hands 1;");
        c.fault(1, "^Plan law 0 hands 1;");
        c.fault(1, PLAN + "^NEW;");
        // a and z are letters: they belong to the word that they stand at
        c.fault(1, PLAN + "^anew;");
        c.fault(1, PLAN + "^newa;");
        c.fault(1, PLAN + "^newz;");
        c.fault(1, PLAN + "^znew;");
    }

    @Edge(of = "I", says = "numbers (digits)")
    static void tI_numbersAreOfDigits(Check c) {
        c.fault(1, PLAN + "new;put ^/ 5 for 1;");
        c.fault(1, PLAN + "new;put ^: 5 for 1;");
        c.fault(1, PLAN + "new;put 0^: 5 for 1;");
        c.fault(1, PLAN + "new;put 0^/ 5 for 1;");
        c.fault(1, PLAN + "new;put 0 ^-5 for 1;");
        c.fault(1, PLAN + "new;put 0 ^+5 for 1;");
        c.fault(1, PLAN + "new;put 0 5^.0 for 1;");
        c.due("digits from 0 to 9", c.told(PLAN + "new;put 0 9 for 10;", 3).job(0, 0), 9);
        HeapVersions zeros = c.told(PLAN + "new;put 000 " + "0".repeat(300) + "909 for 0090;", 3);
        c.due("KEY 909", zeros.job(0, 0), 909);
        c.due("TIME 90", zeros.job(0, 1), 90);
    }

    @Edge(of = "I", says = "the sign ;")
    static void tI_theSignIsTheSemicolon(Check c) {
        c.sound("plan law 1 hands 3;new;new ;\n", 3);
        for (char sign : ":,.<=\"!|".toCharArray()) {
            c.fault(1, PLAN + "new^" + sign);
        }
    }

    // ---- Terms I: FAULTS

    @Edge(of = "I", says = "FAULTS, the first by its place")
    static void tI_theFirstFaultByItsPlace(Check c) {
        c.fault(2, "plan law ^2 hands 5;");
        c.fault(2, PLAN + "new;put 0 ^1000 for 100;");
        c.fault(2, PLAN + "new;take ^0 x");
        c.fault(2, PLAN + "new;take ^0");
        c.fault(1, PLAN + "new;put 0 ^x for 100;");
        c.fault(1, PLAN + "^x;new;take 0;");
        c.fault(2, FULL + "put ^6 1000 for 0;");
        c.fault(2, FULL + "join ^7 7;");
        c.fault(3, TWENTY + "^take 0;#");
        c.fault(2, PLAN + "new;".repeat(19) + "take ^0;new;");
    }

    @Edge(of = "I", says = "(a TOKEN's first byte")
    static void tI_aPlaceIsATokensFirstByte(Check c) {
        c.fault(1, "^plans law 0 hands 1;");
        c.fault(1, "   ^plans law 0 hands 1;");
        c.fault(2, "plan law   ^222 hands 1;");
        c.fault(2, PLAN + "new;put 0\n\n^99999 for 1;");
        c.fault(3, TWENTY + " \n^join 0 0;");
    }

    @Edge(of = "I", says = "; the end's)")
    static void tI_thePlaceOfTheEnd(Check c) {
        c.fault(1, "plan^");
        c.fault(1, "plan law 0 hands 1^");
        c.fault(1, PLAN + "new;take^");
        c.fault(1, "plan law 0 hands 1 \n ^");
        String spaces = " ".repeat(600 - PLAN.length() - 3);
        c.fault(1, PLAN + "new" + spaces + "^");
        c.sound(PLAN + "new;" + spaces.substring(1), 2);
    }

    @Edge(of = "I", says = ", of one place the least:")
    static void tI_ofOnePlaceTheLeastFault(Check c) {
        // a 21st LINE's word that can't stand there is no 21st VERSION
        c.fault(1, TWENTY + "^news;");
        c.fault(1, TWENTY + "^plan law 0 hands 1;");
        c.fault(1, TWENTY + "^;");
        c.fault(1, TWENTY + "^99999;");
        // a number that can't stand there has no bounds
        c.fault(1, PLAN + "new;put 0 5 ^1000 1;");
        c.fault(1, "^1000 law 2;");
    }

    @Edge(of = "I", says = "1 a TOKEN that is none")
    static void tI_fault1ATokenThatIsNone(Check c) {
        for (int sign = 0; sign < 256; sign++) {
            boolean some = sign == ' ' || sign == '\n' || sign == ';' || sign >= '0' && sign <= '9'
                    || sign >= 'a' && sign <= 'z' || sign == '^';
            if (!some) {
                c.fault(1, PLAN + "new ^" + (char) sign + ";");
                c.fault(1, "^" + (char) sign);
            }
        }
        HeapVersions x = new HeapVersions();
        Check.tell(x, PLAN + "new ^;");
        c.due("plan() with the sign 94", x.plan(), -4);
        c.due("fault(0)", x.fault(0), 1);
        c.due("fault(1)", x.fault(1), PLAN.length() + 4);
    }

    @Edge(of = "I", says = ", or can't stand there")
    static void tI_fault1ATokenThatCantStandThere(Check c) {
        c.fault(1, "^0");
        c.fault(1, "plan ^hands 1 law 0;");
        c.fault(1, "plan law ^law;");
        c.fault(1, PLAN + "^7;");
        for (String word : new String[] {"xew", "nxw", "nex", "xut", "xoin", "xake", "tak", "newx", "for"}) {
            c.fault(1, PLAN + "new;^" + word + " 0;");
        }
        c.fault(1, "plan ^xaw 0 hands 1;");
        c.fault(1, "plan law 0 ^hand 1;");
        c.fault(1, PLAN + "^law;");
        c.fault(1, PLAN + "new ^0;");
        c.fault(1, PLAN + "new;put 0 5 ^4 1;");
        c.fault(1, PLAN + "new;put 0 5 ^put 1;");
        c.fault(1, PLAN + "new;join 0 ^;");
        c.fault(1, PLAN + "new;join 0 0 ^0;");
    }

    @Edge(of = "I", says = "(plan behind the first LINE")
    static void tI_fault1PlanBehindTheFirstLine(Check c) {
        c.fault(1, "plan law 0 hands 1;^plan law 0 hands 1;");
        c.fault(1, "plan law 0 hands 1;new;new;^plan");
    }

    @Edge(of = "I", says = ", another word ahead of it)")
    static void tI_fault1AnotherWordAheadOfPlan(Check c) {
        for (String word : new String[] {"new", "put", "join", "take", "law", "hands", "for", "x", "plann", "pla"}) {
            c.fault(1, "^" + word + " plan law 0 hands 1;");
        }
    }

    @Edge(of = "I", says = "2 a number out of its bounds")
    static void tI_fault2ANumberOutOfItsBounds(Check c) {
        c.fault(2, "plan law ^2 hands 1;");
        c.fault(2, "plan law 0 hands ^0;");
        c.fault(2, "plan law 0 hands ^5;");
        c.fault(2, PLAN + "new;put ^1 5 for 1;");
        c.fault(2, PLAN + "new;put 0 ^1000 for 1;");
        c.fault(2, PLAN + "new;put 0 5 for ^0;");
        c.fault(2, PLAN + "new;put 0 5 for ^100;");
        // numbers that would be within their bounds, were they cut to 16, 31, 32 or 64 bits
        for (String wide : new String[] {"65536", "65537", "2147483648", "2147483649", "4294967296", "4294967297",
            "18446744073709551616", "18446744073709551617", "340282366920938463463374607431768211457"}) {
            c.fault(2, "plan law ^" + wide + " hands 1;");
            c.fault(2, "plan law 0 hands ^" + wide + ";");
            c.fault(2, PLAN + "new;put ^" + wide + " 5 for 1;");
            c.fault(2, PLAN + "new;put 0 ^" + wide + " for 1;");
            c.fault(2, PLAN + "new;put 0 5 for ^" + wide + ";");
            c.fault(2, PLAN + "new;join ^" + wide + " 0;");
            c.fault(2, PLAN + "new;join 0 ^" + wide + ";");
            c.fault(2, PLAN + "new;put 0 5 for 1;take ^" + wide + ";");
        }
        c.fault(2, PLAN + "new;put 0 ^1" + "0".repeat(500) + " for 1;");
    }

    @Edge(of = "I", says = "a V of which there would be more than 24 JOBS")
    static void tI_fault2AVOfWhichThereWouldBeMoreThan24(Check c) {
        c.fault(2, FULL + "put ^6 5 for 1;");
        c.fault(2, FULL + "take 6;put 7 5 for 1;put ^8 5 for 1;");
        c.sound(FULL + "take 6;put 7 5 for 1;", 10);
        c.fault(2, FULL + "join 5 ^5;");
        c.sound(FULL + "join 5 4;", 9);
    }

    @Edge(of = "I", says = "(of join: the second one)")
    static void tI_fault2OfJoinTheSecondOne(Check c) {
        c.fault(2, FULL + "join 1 ^6;");
        c.fault(2, FULL + "join 6 ^1;");
        c.fault(2, FULL + "join 6 ^6;");
        c.fault(1, FULL + "join 6 ^;");
    }

    @Edge(of = "I", says = ", of which nothing can be taken")
    static void tI_fault2AVOfWhichNothingCanBeTaken(Check c) {
        c.fault(2, PLAN + "new;take ^0;");
        c.fault(2, PLAN + "new;put 0 5 for 1;take 1;take ^2;");
        c.sound(PLAN + "new;put 0 5 for 1;take 1;", 4);
    }

    @Edge(of = "I", says = "3 a 21st VERSION, at its word")
    static void tI_fault3A21stVersionAtItsWord(Check c) {
        c.fault(3, TWENTY + "^new;");
        c.fault(3, TWENTY + "^put 99 5 for 1;");
        c.fault(3, TWENTY + "^join x");
        c.fault(3, TWENTY + "^take");
        c.sound(TWENTY + " \n ", 21);
    }

    // ---- Terms I: acts, JOBS in order

    @Edge(of = "I", says = "Acts make VERSIONS (and JOBS) likewise, behind those that are there")
    static void tI_actsMakeVersionsBehindThoseThatAreThere(Check c) {
        HeapVersions x = c.told(PLAN + "new;put 0 5 for 1;", 3);
        c.due("puts", x.puts(1, 6, 2), 2);
        c.due("joins", x.joins(2, 1), 3);
        c.due("takes", x.takes(3), 4);
        c.due("puts", x.puts(4, 7, 3), 5);
        c.row("the JOBS that were put", new int[] {x.version(1, 3), x.version(2, 3), x.version(5, 3)}, 0, 1, 2);
        c.row("place", new int[] {x.place(5, 0), x.place(5, 1), x.place(5, 2)}, 0, 1, 2);
        HeapVersions y = c.told(PLAN + "new;put 0 5 for 1;put 1 6 for 2;join 2 1;take 3;put 4 7 for 3;", 7);
        for (int v = 0; v < 6; v++) {
            c.due("parts(" + v + ")", x.parts(v), y.parts(v));
            c.due("links(" + v + ")", x.links(v), y.links(v));
        }
    }

    @Edge(of = "I", says = ", 30 in all.")
    static void tI_30VersionsInAll(Check c) {
        HeapVersions x = c.told(TWENTY, 21);
        for (int v = 20; v < 30; v++) {
            c.due("joins(0, 0)", x.joins(0, 0), v);
        }
        c.due("the 31st, behind 20 told", x.joins(0, 0), -5);
        HeapVersions y = c.told(PLAN + "new;", 2);
        for (int v = 1; v < 30; v++) {
            c.due("puts(0, 5, 5)", y.puts(0, 5, 5), v);
        }
        c.due("the 31st, behind one told", y.puts(0, 5, 5), -5);
        c.due("VERSIONS", y.count(2), 30);
    }

    @Edge(of = "I", says = "JOBS are in order by KEY")
    static void tI_jobsAreInOrderByKey(Check c) {
        HeapVersions x = c.told(PLAN + "new;", 2);
        for (int v = 0; v < 24; v++) {
            x.puts(v, v < 12 ? 999 - v : v - 12, 1);
        }
        // JOBS 12 .. 23 have the KEYS 0 .. 11; JOBS 0 .. 11 the KEYS 999 .. 988
        for (int i = 0; i < 24; i++) {
            c.due("place(24, " + i + ")", x.place(24, i), i < 12 ? 12 + i : 23 - i);
        }
        HeapVersions y = c.told(PLAN + "new;put 0 7 for 1;", 3);
        for (int v = 2; v < 30; v++) {
            y.puts(0, 6, 1);
        }
        y.undo();
        c.due("joins(1, 28)", y.joins(1, 28), 29);
        c.due("KEY 6 of JOB 27 is ahead of KEY 7 of JOB 0", y.place(29, 0), 27);
    }

    @Edge(of = "I", says = ", those of one KEY by their number")
    static void tI_jobsOfOneKeyAreInOrderByTheirNumber(Check c) {
        HeapVersions x = c.told(PLAN + "new;", 2);
        for (int v = 0; v < 24; v++) {
            x.puts(v, 5, 99 - v);
        }
        for (int i = 0; i < 24; i++) {
            c.due("place(24, " + i + ")", x.place(24, i), i);
        }
        HeapVersions y = c.told(PLAN + "new;put 0 5 for 1;put 0 5 for 1;join 2 1;join 1 2;", 6);
        c.row("JOB 0, then JOB 1", new int[] {y.place(3, 0), y.place(3, 1), y.place(4, 0), y.place(4, 1)}, 0, 1, 0, 1);
    }

    @Edge(of = "I", says = "a JOB is the same only as itself")
    static void tI_aJobIsTheSameOnlyAsItself(Check c) {
        HeapVersions x = c.told(PLAN + "new;put 0 5 for 1;put 0 5 for 1;", 4);
        c.due("same(1, 2)", x.same(1, 2), 0);
        c.due("more(1, 2)", x.more(1, 2), 1);
        c.due("times(1, 1)", x.times(1, 1), 0);
        c.due("times(2, 1)", x.times(2, 1), 1);
        c.due("least(1)", x.least(1), 0);
        c.due("least(2)", x.least(2), 1);
    }

    // ---- promises 1 to 6

    @Edge(of = "1", says = "No PLAN.")
    static void p01_aNewObjectHasNoPlan(Check c) {
        HeapVersions x = new HeapVersions();
        c.row("count", Check.counts(x), 0, 0, 0, 0, 0, 0, 0, 0);
        c.row("all, lean, undo, anew", new int[] {x.all(), x.lean(), x.undo(), x.anew()}, -2, -2, -2, -2);
        c.due("size(0)", x.size(0), -2);
        c.due("job(0, 0)", x.job(0, 0), -2);
        c.due("puts(0, 0, 1)", x.puts(0, 0, 1), -2);
        c.due("NONE", HeapVersions.NONE, -1);
        HeapVersions y = c.told(PLAN + "new;", 2);
        c.due("an object has a PLAN of its own", x.count(6), 0);
        c.due("count(6)", y.count(6), 2);
    }

    @Edge(of = "2", says = "Twenty bytes come behind the TAPE")
    static void p02_twentyBytesComeBehindTheTape(Check c) {
        HeapVersions x = new HeapVersions();
        int blank = 0x20202020;
        x.feed(blank, blank, blank, blank, 0x202020 << 8 | 'p');
        x.feed('l' << 24 | 'a' << 16 | 'n' << 8 | 'l', 'a' << 24 | 'w' << 16 | '1' << 8 | 'h',
                'a' << 24 | 'n' << 16 | 'd' << 8 | 's', '3' << 24 | ';' << 16 | 0x2020, blank);
        c.due("plan()", x.plan(), -4);
        c.due("fault(1): planlaw is one word", x.fault(1), 19);
        x.feed('p' << 24 | 'l' << 16 | 'a' << 8 | 'n', blank, blank, blank, blank);
        c.due("end(5)", x.end(5), 5);
        c.due("feed behind 5 bytes", x.feed('l' << 24 | 'a' << 16 | 'w' << 8 | '1', 'h' << 24 | 'a' << 16 | 'n' << 8 | 'd',
                's' << 24 | '3' << 16 | ';' << 8 | ' ', blank, blank), 25);
        c.due("plan()", x.plan(), 1);
    }

    @Edge(of = "2", says = ", four of each number, the highest first")
    static void p02_fourBytesOfEachNumberTheHighestFirst(Check c) {
        HeapVersions x = new HeapVersions();
        x.feed(0x706c616e, 0x206c6177, 0x20302068, 0x616e6473, 0x20323b0a);
        c.due("plan()", x.plan(), 1);
        c.due("HANDS", x.count(1), 2);
        // bytes from 128 to 255, the highest of a number below 0
        for (int i = 0; i < 4; i++) {
            x.feed(0x20202020, i == 0 ? 0xff202020 : i == 1 ? 0x20802020 : i == 2 ? 0x2020c320 : 0x202020fe, 0, 0, 0);
            c.due("plan()", x.plan(), -4);
            c.due("fault(0)", x.fault(0), 1);
            c.due("fault(1)", x.fault(1), 4 + i);
        }
        x.feed(-1, -1, -1, -1, -1);
        c.due("plan()", x.plan(), -4);
        c.due("fault(1)", x.fault(1), 0);
        // what would be a blank, a sign, a letter, a digit without its highest bit
        for (int sign : new int[] {0xa0, 0x8a, 0xbb, 0xf0, 0xb0}) {
            x.feed(0x20202020, sign << 24 | 0x202020, 0x20202020, 0x20202020, 0x20202020);
            c.due("plan() of " + sign, x.plan(), -4);
            c.row("fault of " + sign, new int[] {x.fault(0), x.fault(1)}, 1, 4);
        }
    }

    @Edge(of = "2", says = ": how many it has")
    static void p02_howManyTheTapeHas(Check c) {
        HeapVersions x = new HeapVersions();
        for (int n = 20; n <= 600; n += 20) {
            c.due("feed", x.feed(n, n, n, n, n), n);
            c.due("count(7)", x.count(7), n);
        }
    }

    @Edge(of = "2", says = "NONE, and none come, if it would have more than 600")
    static void p02_noneComeBeyond600(Check c) {
        HeapVersions x = new HeapVersions();
        int blank = 0x20202020;
        for (int n = 20; n <= 600; n += 20) {
            c.due("feed", x.feed(blank, blank, blank, blank, blank), n);
        }
        c.due("feed to 620", x.feed(-1, -1, -1, -1, -1), -1);
        c.due("count(7)", x.count(7), 600);
        c.due("end(599)", x.end(599), 599);
        c.due("feed to 619", x.feed(-1, -1, -1, -1, -1), -1);
        c.due("end(581)", x.end(581), 581);
        c.due("feed to 601", x.feed(-1, -1, -1, -1, -1), -1);
        c.due("count(7): none come", x.count(7), 581);
        c.due("end(600)", x.end(600), -1);
        c.due("end(580)", x.end(580), 580);
        c.due("feed to 600", x.feed(blank, blank, blank, blank, blank), 600);
        c.due("plan(): blanks alone", x.plan(), 0);
        c.due("feed to an empty TAPE", x.feed(0, 0, 0, 0, 0), 20);
    }

    @Edge(of = "3", says = "The TAPE has its first n bytes alone: n")
    static void p03_theFirstBytesAlone(Check c) {
        HeapVersions x = new HeapVersions();
        c.due("end(0) of an empty TAPE", x.end(0), 0);
        Check.tell(x, PLAN + "#".repeat(21));
        c.due("count(7)", x.count(7), 40);
        c.due("end(40): all", x.end(40), 40);
        c.due("count(7)", x.count(7), 40);
        c.due("end(19)", x.end(19), 19);
        c.due("count(7)", x.count(7), 19);
        c.due("plan()", x.plan(), 1);
        x.feed(-1, -1, -1, -1, -1);
        c.due("end(0)", x.end(0), 0);
        c.due("plan() of none", x.plan(), 0);
    }

    @Edge(of = "3", says = "NONE, and nothing happens, if it has not so many")
    static void p03_noneIfTheTapeHasNotSoMany(Check c) {
        HeapVersions x = new HeapVersions();
        c.due("end(1) of an empty TAPE", x.end(1), -1);
        Check.tell(x, PLAN);
        c.due("end(20)", x.end(20), -1);
        c.due("end(600)", x.end(600), -1);
        c.due("end(most)", x.end(Integer.MAX_VALUE), -1);
        c.due("count(7)", x.count(7), 19);
        c.due("end(18)", x.end(18), 18);
        c.due("end(19): that byte is gone", x.end(19), -1);
        c.due("count(7)", x.count(7), 18);
    }

    @Edge(of = "3", says = ", or n is below 0")
    static void p03_noneBelow0(Check c) {
        HeapVersions x = new HeapVersions();
        c.due("end(-1) of an empty TAPE", x.end(-1), -1);
        Check.tell(x, PLAN);
        c.due("end(-1)", x.end(-1), -1);
        c.due("end(least)", x.end(Integer.MIN_VALUE), -1);
        c.due("count(7): nothing happens", x.count(7), 19);
        c.due("plan()", x.plan(), 1);
    }

    @Edge(of = "4", says = "The TAPE (empty then) is the PLAN")
    static void p04_theTapeIsEmptyThen(Check c) {
        HeapVersions x = new HeapVersions();
        Check.tell(x, PLAN + "new;");
        c.due("plan()", x.plan(), 2);
        c.due("count(7)", x.count(7), 0);
        c.due("end(1)", x.end(1), -1);
        Check.tell(x, PLAN + "old;");
        c.due("plan()", x.plan(), -4);
        c.due("count(7) behind a FAULT", x.count(7), 0);
        c.due("feed", x.feed(0, 0, 0, 0, 0), 20);
    }

    @Edge(of = "4", says = "(in place of another)")
    static void p04_inPlaceOfAnother(Check c) {
        HeapVersions x = c.told(FULL, 8);
        Check.tell(x, PLAN + "new;put 0 9 for 9;");
        c.due("plan()", x.plan(), 3);
        c.row("count", Check.counts(x), 1, 3, 2, 1, 2, 0, 3, 0);
        c.due("job(0, 0)", x.job(0, 0), 9);
        c.due("size(1)", x.size(1), 1);
        c.due("size(2)", x.size(2), -2);
        c.due("all()", x.all(), 0);
        c.due("parts(1)", x.parts(1), 1);
    }

    @Edge(of = "4", says = ", no acts")
    static void p04_noActsThen(Check c) {
        HeapVersions x = c.told(PLAN + "new;put 0 9 for 9;", 3);
        x.puts(1, 5, 5);
        x.takes(2);
        Check.tell(x, PLAN + "new;put 0 9 for 9;");
        c.due("plan()", x.plan(), 3);
        c.row("count", Check.counts(x), 1, 3, 2, 1, 2, 0, 3, 0);
        c.due("undo()", x.undo(), -5);
        c.due("anew()", x.anew(), 0);
    }

    @Edge(of = "4", says = ": how many LINES")
    static void p04_howManyLines(Check c) {
        c.sound(PLAN, 1);
        c.sound(PLAN + "new;", 2);
        c.sound(TWENTY, 21);
    }

    @Edge(of = "4", says = "(0: there is none then)")
    static void p04_thereIsNoPlanThen(Check c) {
        for (String nothing : new String[] {"", " ", "\n", " \n ".repeat(200)}) {
            HeapVersions x = c.told(FULL.replace("law 0 hands 1", "law 1 hands 3"), 8);
            x.puts(0, 5, 5);
            Check.tell(x, nothing);
            c.due("plan() of nothing", x.plan(), 0);
            c.row("count", Check.counts(x), 0, 0, 0, 0, 0, 0, 0, 0);
            c.row("all, lean, undo, anew", new int[] {x.all(), x.lean(), x.undo(), x.anew()}, -2, -2, -2, -2);
            c.due("size(0)", x.size(0), -2);
            c.due("job(0, 0)", x.job(0, 0), -2);
            c.due("fault(0)", x.fault(0), 0);
        }
    }

    @Edge(of = "4", says = "-4: a FAULT")
    static void p04_minus4AFault(Check c) {
        HeapVersions x = new HeapVersions();
        for (String text : new String[] {"x", PLAN + "take 0;", TWENTY + "new;", "plan law 0 hands 1"}) {
            Check.tell(x, text);
            c.due("plan() of " + text, x.plan(), -4);
        }
        c.due("count(6)", x.count(6), 0);
    }

    @Edge(of = "4", says = "(all else stays)")
    static void p04_allElseStaysBehindAFault(Check c) {
        HeapVersions x = c.told(PLAN + "new;put 0 9 for 9;put 1 3 for 3;take 2;", 5);
        x.puts(2, 5, 5);
        x.joins(4, 4);
        int[] counts = Check.counts(x);
        int[] about = about(x);
        for (String text : new String[] {"plan law 0 hands 1;new;put 0 1 for 1;x", "x", "plan law 0 hands 9;",
            "plan law 0 hands 1;new;take 0;", "plan law 0 hands 2;" + "new;".repeat(21), "plan law 0 hands 1"}) {
            Check.tell(x, text);
            c.due("plan() of " + text, x.plan(), -4);
            c.row("count behind " + text, Check.counts(x), counts);
            c.row("what there is behind " + text, about(x), about);
        }
        c.due("undo()", x.undo(), 1);
        c.due("anew()", x.anew(), 1);
    }

    private static int[] about(HeapVersions x) {
        return new int[] {x.size(5), x.least(5), x.place(5, 3), x.job(2, 0), x.job(2, 1), x.version(4, 1), x.parts(5),
            x.links(5), x.all(), x.lean(), x.drain(5), x.done(5, 0), x.left(5, 2), x.roots(5)};
    }

    @Edge(of = "5", says = "Of the latest plan(), what 0: its FAULT, 0 without")
    static void p05_theFaultOfTheLatestPlan(Check c) {
        HeapVersions x = new HeapVersions();
        c.due("fault(0) ahead of any", x.fault(0), 0);
        String[] texts = {"x", PLAN, "plan law 2 hands 1;", "", TWENTY + "new;", "plan", PLAN + "new;"};
        int[] due = {1, 0, 2, 0, 3, 1, 0};
        for (int i = 0; i < texts.length; i++) {
            Check.tell(x, texts[i]);
            x.plan();
            c.due("fault(0) of " + texts[i], x.fault(0), due[i]);
        }
        Check.tell(x, "x");
        c.due("fault(0): a TAPE is no plan()", x.fault(0), 0);
        x.plan();
        x.puts(0, 1, 1);
        x.undo();
        x.feed(0, 0, 0, 0, 0);
        x.end(0);
        c.due("fault(0): the latest stays", x.fault(0), 1);
    }

    @Edge(of = "5", says = ", 1: its place (NONE without)")
    static void p05_itsPlace(Check c) {
        HeapVersions x = new HeapVersions();
        String[] texts = {"x", PLAN, "plan law 2 hands 1;", "", "plan  ", PLAN + "new;"};
        int[] due = {0, -1, 9, -1, 6, -1};
        for (int i = 0; i < texts.length; i++) {
            Check.tell(x, texts[i]);
            x.plan();
            c.due("fault(1) of " + texts[i], x.fault(1), due[i]);
        }
    }

    @Edge(of = "5", says = "NONE for another what")
    static void p05_noneForAnotherWhat(Check c) {
        HeapVersions x = new HeapVersions();
        for (int round = 0; round < 2; round++) {
            for (int what : new int[] {-1, 2, 3, Integer.MAX_VALUE, Integer.MIN_VALUE}) {
                c.due("fault(" + what + ")", x.fault(what), -1);
            }
            Check.tell(x, "plan law 2");
            x.plan();
        }
    }

    @Edge(of = "5", says = ", and ahead of any (what 1)")
    static void p05_noneAheadOfAny(Check c) {
        HeapVersions x = new HeapVersions();
        c.due("fault(1)", x.fault(1), -1);
        Check.tell(x, "x");
        c.due("fault(1): a TAPE is no plan()", x.fault(1), -1);
    }

    @Edge(of = "6", says = "0 LAW, 1 HANDS, 2 VERSIONS (told, of acts), 3 JOBS, 4 VERSIONS told, 5 acts, 6 LINES, "
            + "7 bytes of the TAPE.")
    static void p06_counts(Check c) {
        HeapVersions x = c.told("plan law 1 hands 4;new;put 0 5 for 1;put 1 4 for 2;join 1 2;take 3;", 6);
        c.row("count", Check.counts(x), 1, 4, 5, 2, 5, 0, 6, 0);
        x.puts(4, 9, 9);
        x.joins(0, 1);
        x.takes(5);
        x.feed(0, 0, 0, 0, 0);
        c.row("count with acts", Check.counts(x), 1, 4, 8, 3, 5, 3, 6, 20);
        x.undo();
        x.end(7);
        c.row("count with one less", Check.counts(x), 1, 4, 7, 3, 5, 2, 6, 7);
        x.anew();
        c.row("count without", Check.counts(x), 1, 4, 5, 2, 5, 0, 6, 7);
        c.row("count of plan alone", Check.counts(c.told("plan law 0 hands 2;", 1)), 0, 2, 0, 0, 0, 0, 1, 0);
    }

    @Edge(of = "6", says = "NONE for others")
    static void p06_noneForOthers(Check c) {
        HeapVersions x = new HeapVersions();
        for (int round = 0; round < 2; round++) {
            for (int what : new int[] {-1, 8, 9, Integer.MAX_VALUE, Integer.MIN_VALUE}) {
                c.due("count(" + what + ")", x.count(what), -1);
            }
            Check.tell(x, PLAN + "new;");
            x.plan();
        }
    }
}

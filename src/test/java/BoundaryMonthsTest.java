/**
 * Terms, part II (MONTHS, the seed, ACTS, KEPT), and promises 8 to 12 and 23 to 29: one test for each sentence that names a
 * boundary case, in their order; the answers are worked out by hand.
 */
public final class BoundaryMonthsTest {
    private static final int NONE = OpenGraves.NONE;
    private static final long NOTHING = OpenGraves.NOTHING;
    private static final int[] FAR = {Integer.MIN_VALUE, -1000, -1, 1000, Integer.MAX_VALUE};
    private static final Check check = new Check();
    private static final String ONE = "person p tall 5 age 50 will 5;";
    private static final String EIGHT = "person a tall 5 age 10 will 1;person b tall 5 age 20 will 2;"
            + "person c tall 5 age 30 will 3;person d tall 5 age 40 will 4;person e tall 5 age 50 will 5;"
            + "person f tall 5 age 60 will 6;person s tall 5 age 70 will 7;person t tall 5 age 80 will 8;";

    public static void main(String[] args) {
        atFirst();
        asking();
        fitting();
        notAlive();
        nextGraves();
        comingForward();
        dueSooner();
        taking();
        hearts();
        years();
        monthIsOneMore();
        dying();
        draws();
        acts();
        lastTwenty();
        whatIsKept();
        grave();
        person();
        counts();
        next();
        kept();
        dig();
        fill();
        talk();
        months();
        chance();
        undo();
        seed();
        check.close("BoundaryMonthsTest");
    }

    private static void due(String call, long got, long want) {
        check.due(call, got, want);
    }

    private static void due(String call, boolean got, boolean want) {
        check.due(call, got, want);
    }

    // ---- terms, part II

    private static void atFirst() {
        check.sentence("It is MONTH 0 at first, all are ALIVE, no GRAVE is FILLED.");
        OpenGraves x = check.good("grave g long 9 deep 9 due 1;" + EIGHT, 9);
        due("month", x.has(2), 0);
        due("alive", x.has(3), 8);
        due("filled", x.has(5), 0);
        due("who is in it", x.grave(0, 3), NONE);
    }

    private static void asking() {
        check.sentence("A GRAVE ASKS, if it is 6 feet deep, or deeper, and not FILLED.");
        OpenGraves x = check.good("grave g long 5 deep 5 due 3;grave h long 5 deep 6 due 3;grave i long 5 deep 7 due 3;"
                + "grave j long 5 deep 9 due 3;grave k long 5 deep 0 due 3;" + ONE, 6);
        int[] want = {0, 1, 1, 1, 0};
        for (int g = 0; g < 5; g++) {
            due("whether " + g + " asks", x.grave(g, 4), want[g]);
        }
        due("three ask", x.has(4), 3);
        x.dig(0);
        due("dug to 6 feet it asks", x.grave(0, 4), 1);
        x.fill(1, 0);
        due("filled it does not", x.grave(1, 4), 0);
        due("three ask again", x.has(4), 3);
    }

    private static void fitting() {
        check.sentence("One FITS in a GRAVE, if he is no taller than it is long.");
        OpenGraves x = check.good("grave g long 5 deep 6 due 3;person p tall 5 age 1 will 1;person q tall 6 age 1 will 1;"
                + "person r tall 4 age 1 will 1;", 4);
        due("as tall as it is long", x.next(0), 0);
        due("a foot taller", x.next(1), NONE);
        due("a foot less tall", x.next(2), 0);
        due("a foot taller is not put there", x.fill(0, 1), false);
        due("as tall as it is long is", x.fill(0, 0), true);
    }

    private static void notAlive() {
        check.sentence("Whoever is in a GRAVE, or has died, is not ALIVE any more; a GRAVE in which one is, is FILLED.");
        OpenGraves x = check.good("grave g long 5 deep 1 due 3;person p tall 5 age 1 will 1;person q tall 9 age 99 will 1;"
                + "dies age*2;", 4);
        x.fill(0, 0);
        due("put there he is not alive", x.person(0, 3), 0);
        due("the grave is filled, though it never asked", x.has(5), 1);
        due("q dies", x.chance(1), 1);
        due("died, in no grave, he is not alive", x.person(1, 3), 0);
        due("nobody is alive", x.has(3), 0);
        due("one grave is filled", x.has(5), 1);
    }

    private static void nextGraves() {
        check.sentence("that which is due first (by the fewest MONTHS), of like ones the first.");
        String text = "grave g long 9 deep 6 due 30;grave h long 9 deep 6 due 2;grave i long 9 deep 6 due 2;"
                + "grave j long 9 deep 5 due 1;grave k long 4 deep 6 due 1;" + ONE;
        OpenGraves x = check.good(text, 6);
        due("of like ones the first", x.next(0), 1);
        // an image in which i is due in 0, h in 1
        due("on()", Check.goesOn(x, Check.sealed(0, 0, 6, 30, 255, 6, 1, 255, 6, 0, 255, 5, 1, 255, 6, 1, 255, 1, 50, 5)), true);
        due("due in 0 is ahead of due in 1", x.next(0), 2);
        OpenGraves late = check.good("grave g long 9 deep 6 due 30;" + ONE, 2);
        due("due in 30 months, it alone", late.next(0), 0);
        due("without graves", check.good(ONE, 1).next(0), NONE);
    }

    private static void comingForward() {
        check.sentence("for whom the TEST of comes holds (by what is so then), and for whom there is a NEXT GRAVE, COMES: he is in it.");
        OpenGraves x = check.good("grave g long 5 deep 6 due 9;person p tall 6 age 1 will 9;person q tall 5 age 1 will 8;"
                + "person r tall 5 age 1 will 9;person s tall 5 age 1 will 9;", 5);
        x.months(1);
        due("r comes", x.grave(0, 3), 2);
        due("p, who does not fit, stays", x.person(0, 3), 1);
        due("q, whose test does not hold, stays", x.person(1, 3), 1);
        due("s, for whom there is none any more, stays", x.person(3, 3), 1);
        due("it is the month's first", x.grave(0, 2), 9);
        OpenGraves none = check.good("person p tall 6 age 1 will 9;", 1);
        none.months(1);
        due("without graves nobody comes", none.has(3), 1);
        // one who comes leaves one grave fewer that asks for those behind him
        OpenGraves then = check.good("grave g long 5 deep 6 due 9;grave h long 5 deep 6 due 9;person p tall 5 age 1 will 1;"
                + "person q tall 5 age 1 will 1;comes asked>1;", 5);
        then.months(1);
        due("p comes, as two ask", then.person(0, 3), 0);
        due("q does not, as one asks then", then.person(1, 3), 1);
    }

    private static void dueSooner() {
        check.sentence("THEN each GRAVE that ASKS is due one MONTH sooner (0 at least)");
        OpenGraves x = check.good("grave g long 1 deep 6 due 2;grave h long 1 deep 5 due 2;grave i long 9 deep 6 due 2;"
                + "person p tall 9 age 1 will 1;person q tall 9 age 1 will 1;", 5);
        x.fill(2, 1);
        int[] want = {1, 0, 0, 0};
        for (int n = 0; n < 4; n++) {
            x.months(1);
            due("g behind " + (n + 1), x.grave(0, 2), want[n]);
            due("h, which does not ask, behind " + (n + 1), x.grave(1, 2), 2);
            due("i, which is filled, behind " + (n + 1), x.grave(2, 2), 2);
        }
        OpenGraves once = check.good("grave g long 9 deep 6 due 1;" + ONE, 2);
        due("due in 1 it takes in the first month", once.months(1), 1);
        due("and stays due in 0", once.grave(0, 2), 0);
    }

    /** Whom a grave 5 feet long takes behind a month. */
    private static void takes(String what, String sum, int want) {
        OpenGraves x = check.good("grave g long 5 deep 6 due 1;person p tall 6 age 90 will 1;person q tall 5 age 50 will 1;"
                + "person r tall 5 age 60 will 1;person s tall 5 age 60 will 1;takes " + sum + ";", 6);
        due(what + ": how many", x.months(1), 1);
        due(what + ": who", x.grave(0, 3), want);
    }

    private static void taking() {
        check.sentence("TAKES, of those ALIVE that FIT, the one by whom the SUM of takes is most, of like ones the first;");
        takes("the most, of like ones the first", "age", 2);
        takes("all alike", "7", 1);
        takes("all below 0", "0-age", 1);
        takes("all at the least there is", "0-9999*9999-age", 1);
        takes("all at the most there is", "9999*9999+age", 1);
        takes("one below 0, others at 0", "max(age,60)-60-(60-min(age,60))", 2);
        check.sentence("if nobody FITS, it stays due in 0.");
        OpenGraves x = check.good("grave g long 4 deep 6 due 1;grave h long 5 deep 6 due 1;grave i long 9 deep 6 due 1;" + ONE, 4);
        due("g takes nobody, h does", x.months(1), 1);
        due("g stays due in 0", x.grave(0, 2), 0);
        due("g is not filled", x.grave(0, 3), NONE);
        due("h took p", x.grave(1, 3), 0);
        due("nobody is left for i", x.grave(2, 3), NONE);
        due("i stays due in 0", x.grave(2, 2), 0);
        due("no month takes any more", x.months(100), 0);
        due("they still ask", x.has(4), 2);
        due("they still are due in 0", x.grave(0, 2) + x.grave(2, 2), 0);
    }

    private static void heart(String sum, int want) {
        OpenGraves x = check.good(ONE + "heart " + sum + ";", 2);
        x.months(1);
        due("heart " + sum, x.person(0, 2), want);
    }

    private static void hearts() {
        check.sentence("THEN each who is ALIVE is as willing as the SUM of heart tells, 0 .. 9 (below is 0, above 9);");
        heart("0-1", 0);
        heart("0", 0);
        heart("1", 1);
        heart("9", 9);
        heart("10", 9);
        heart("9999*9999", 9);
        heart("0-9999*9999", 0);
        heart("will-6", 0);
        heart("will+4", 9);
        heart("will+5", 9);
        OpenGraves x = check.good("grave g long 5 deep 6 due 9;" + ONE + "heart 1;", 3);
        x.fill(0, 0);
        x.months(1);
        due("of one who is not alive it stays", x.person(0, 2), 5);
        // taken counts those of this month alone
        OpenGraves y = check.good("grave g long 5 deep 6 due 1;grave h long 5 deep 6 due 1;grave i long 5 deep 6 due 2;" + EIGHT
                + "heart taken;", 12);
        y.months(1);
        due("two were taken in this month", y.person(0, 2), 2);
        y.months(1);
        due("one was taken in the next", y.person(0, 2), 1);
        y.months(1);
        due("nobody was taken then", y.person(0, 2), 0);
    }

    private static void years() {
        check.sentence("in each twelfth MONTH (of numbers 11, 23, 35, and so on) each who is ALIVE is a year older, behind that (99 at most).");
        OpenGraves x = check.good("grave g long 9 deep 1 due 9;person p tall 5 age 0 will 1;person q tall 5 age 98 will 1;"
                + "person r tall 5 age 99 will 1;person s tall 5 age 44 will 1;person t tall 5 age 44 will 1;"
                + "heart age-40;dies 0;", 8);
        x.fill(0, 3);
        x.months(1);
        due("not behind month 0", x.person(0, 1), 0);
        x.months(10);
        due("not ahead of month 11", x.person(0, 1), 0);
        x.months(1);
        due("behind month 11", x.person(0, 1), 1);
        due("98 is 99 then", x.person(1, 1), 99);
        due("99 is 99 still", x.person(2, 1), 99);
        due("one who is not alive is no older", x.person(3, 1), 44);
        due("the heart was ahead of the year", x.person(4, 2), 4);
        due("though the year is there", x.person(4, 1), 45);
        x.months(1);
        due("the heart by the new age", x.person(4, 2), 5);
        x.months(10);
        due("ahead of month 23", x.person(0, 1), 1);
        x.chance(1);
        due("behind month 23, by the seed", x.person(0, 1), 2);
        due("99 at most", x.person(1, 1), 99);
        x.months(11);
        due("ahead of month 35", x.person(0, 1), 2);
        x.months(1);
        due("behind month 35", x.person(0, 1), 3);
    }

    private static void monthIsOneMore() {
        check.sentence("The MONTH is one more (999 at most).");
        OpenGraves x = check.good(ONE, 1);
        x.months(1);
        due("one more", x.has(2), 1);
        x.chance(1);
        due("one more by the seed", x.has(2), 2);
        Check.advance(x, 999);
        due("the last", x.has(2), 999);
        due("months(1) then", x.months(1), NONE);
        due("chance(1) then", x.chance(1), NONE);
        due("it stays the last", x.has(2), 999);
    }

    /** How many of one person die by a seed and a sum in a month. */
    private static void dies(int seed, String sum, int want) {
        OpenGraves x = check.good(ONE + "dies " + sum + ";", 2);
        x.seed(seed);
        due("seed " + seed + ", dies " + sum, x.chance(1), want);
    }

    private static void dying() {
        check.sentence("a DRAW of 100: below the SUM of dies (0 .. 100: below is 0, above 100) he DIES");
        // of seed 1 the first draw is 18
        dies(1, "18", 0);
        dies(1, "19", 1);
        // of seed 42 it is 0
        dies(42, "0", 0);
        dies(42, "0-1", 0);
        dies(42, "0-9999*9999", 0);
        dies(42, "1", 1);
        // of seed 119 it is 99
        dies(119, "99", 0);
        dies(119, "100", 1);
        dies(119, "101", 1);
        dies(119, "9999*9999", 1);
        check.sentence("he is in his NEXT GRAVE, in the churchyard without one.");
        OpenGraves x = check.good("grave g long 5 deep 6 due 2;grave h long 5 deep 6 due 1;grave i long 9 deep 5 due 1;"
                + "person p tall 5 age 1 will 1;person q tall 6 age 1 will 1;person r tall 5 age 1 will 1;"
                + "person s tall 5 age 1 will 1;dies 100;", 8);
        due("all die", x.chance(1), 4);
        int[] want = {1, NONE, 0, NONE};
        for (int p = 0; p < 4; p++) {
            due("where " + p + " is", x.kept(p, 2), want[p]);
        }
        due("i, which does not ask, has nobody", x.grave(2, 3), NONE);
    }

    private static void draws() {
        check.sentence("A DRAW of m: x (the seed) becomes (1103515245 x + 12345) mod 2 to the 31; floor(x / 64) mod m.");
        // 0: 12345 / 64 = 192
        dies(0, "92", 0);
        dies(0, "93", 1);
        // 2: 2207030490 + 12345 - 2^31 = 59559187, / 64 = 930612
        dies(2, "12", 0);
        dies(2, "13", 1);
        // 2^30: 1103515245 is odd, so 2^30 + 12345 = 1073754169, / 64 = 16777408
        dies(1073741824, "8", 0);
        dies(1073741824, "9", 1);
        // 2^31 - 1 is -1: 12345 - 1103515245 + 2^31 = 1043980748, / 64 = 16312199
        dies(2147483647, "99", 0);
        dies(2147483647, "100", 1);
        // 2^31 - 2 is -2: 12345 - 2207030490 + 2^32 = 2087949151, / 64 = 32624205
        dies(2147483646, "5", 0);
        dies(2147483646, "6", 1);
        check.sentence("BY THE SEED a MONTH begins so: PERSON by PERSON, who is ALIVE, a DRAW of 100");
        // the draws of seed 1 are 18, 99, 26, 80: for the living alone, and on from month to month
        OpenGraves x = check.good("grave g long 9 deep 1 due 1;person p tall 5 age 1 will 1;person q tall 5 age 1 will 1;"
                + "person r tall 5 age 1 will 1;dies 50;", 5);
        x.fill(0, 0);
        due("one dies", x.chance(1), 1);
        due("q, of 18, as p has no draw", x.person(1, 3), 0);
        due("r does not, of 99", x.person(2, 3), 1);
        due("r does in the next month, of 26", x.chance(1), 1);
        OpenGraves y = check.good(ONE + "dies month*13;", 2);
        due("18, 99, 26, 80 against 0, 13, 26, 39", y.chance(4), 0);
        OpenGraves z = check.good(ONE + "dies month*14;", 2);
        due("26 against 28", z.chance(3), 1);
        due("in month 2", z.kept(0, 0), 2);
    }

    private static void acts() {
        check.sentence("ACTS: a GRAVE that is not FILLED is dug a foot deeper (9 at most)");
        OpenGraves x = check.good("grave g long 5 deep 8 due 2;grave h long 5 deep 0 due 2;" + ONE, 3);
        due("to 9", x.dig(0), 9);
        due("not beyond", x.dig(0), NONE);
        check.sentence("one who is ALIVE is put into a GRAVE that is not FILLED (ASKING or not) in which he FITS");
        due("into one that does not ask", x.fill(1, 0), true);
        due("a filled one is not dug", x.dig(1), NONE);
        x.undo();
        due("into one that asks", x.fill(0, 0), true);
    }

    private static void lastTwenty() {
        check.sentence("The last 20 can be undone.");
        OpenGraves x = check.good(ONE, 1);
        for (int n = 0; n < 20; n++) {
            x.months(1);
        }
        due("20 acts", x.has(8), 20);
        for (int n = 0; n < 20; n++) {
            due("undo " + n, x.undo(), true);
        }
        due("all 20 are undone", x.has(2), 0);
        due("undo of none", x.undo(), false);
        for (int n = 0; n < 21; n++) {
            x.months(1);
        }
        due("of 21 acts", x.has(8), 20);
        for (int n = 0; n < 20; n++) {
            due("undo " + n + " of 21", x.undo(), true);
            due("month", x.has(2), 20 - n);
        }
        due("the first of 21 can't be undone", x.undo(), false);
        due("its month stays", x.has(2), 1);
        // the ring goes on behind it
        for (int n = 0; n < 20; n++) {
            x.months(2);
        }
        for (int n = 0; n < 20; n++) {
            x.undo();
        }
        due("20 more, undone", x.has(2), 1);
    }

    private static void whatIsKept() {
        check.sentence("GRAVE (NONE: the churchyard), how (0 he CAME, 1 he was TAKEN, 2 he DIED, 3 he was put there); the last 40 are told.");
        OpenGraves x = check.good("grave g long 5 deep 1 due 9;grave h long 5 deep 6 due 2;grave i long 5 deep 6 due 3;" + EIGHT
                + "dies max(0,age-79)*100;comes age=10;", 13);
        x.fill(0, 1);
        x.chance(3);
        // b was put into g; in month 0 t dies into h, due first, and a comes into i; nothing asks any more
        long[][] want = {{0, 1, 0, 3}, {0, 7, 1, 2}, {0, 0, 2, 0}};
        due("kept", x.has(6), 3);
        for (int k = 0; k < 3; k++) {
            for (int what = 0; what < 4; what++) {
                due("kept(" + k + ", " + what + ")", x.kept(k, what), want[k][what]);
            }
        }
        OpenGraves y = check.good("grave g long 5 deep 6 due 2;" + EIGHT + "dies month*100;comes not all;", 11);
        y.chance(2);
        // in month 1 all die: a into g, the others into the churchyard
        due("all eight are kept", y.has(6), 8);
        for (int k = 0; k < 8; k++) {
            due("month of " + k, y.kept(k, 0), 1);
            due("person of " + k, y.kept(k, 1), k);
            due("grave of " + k, y.kept(k, 2), k == 0 ? 0 : NONE);
            due("how of " + k, y.kept(k, 3), 2);
        }
        due("there is no ninth", y.kept(8, 1), NONE);
        // what is undone is kept no more: six times eight are never above 40
        for (int n = 0; n < 6; n++) {
            y.undo();
            due("none is kept behind undo()", y.has(6), 0);
            y.chance(2);
            due("eight again", y.has(6), 8);
        }
        due("the last of them", y.kept(7, 1), 7);
        OpenGraves taken = check.good("grave g long 5 deep 6 due 2;" + ONE, 2);
        taken.months(2);
        due("the month in which he was taken", taken.kept(0, 0), 1);
        due("he was taken", taken.kept(0, 3), 1);
    }

    // ---- promises 8 to 12

    private static void grave() {
        check.sentence("0 how long, 1 how deep, 2 due, 3 who is in it (NONE), 4 whether it ASKS. NONE when there is none such, or for others.");
        OpenGraves x = check.good("grave g long 5 deep 6 due 2;grave h long 5 deep 6 due 2;" + ONE, 3);
        due("nobody is in it", x.grave(1, 3), NONE);
        due("the last", x.grave(1, 0), 5);
        due("one behind it", x.grave(2, 0), NONE);
        due("what 5", x.grave(0, 5), NONE);
        for (int far : FAR) {
            due("grave(" + far + ", 0)", x.grave(far, 0), NONE);
            due("grave(0, " + far + ")", x.grave(0, far), NONE);
        }
        due("without graves", new OpenGraves().grave(0, 0), NONE);
    }

    private static void person() {
        check.sentence("0 how tall, 1 age, 2 will, 3 whether ALIVE. NONE when there is none such, or for others.");
        OpenGraves x = check.good("grave g long 5 deep 6 due 2;" + EIGHT, 9);
        due("the last", x.person(7, 1), 80);
        due("one behind it", x.person(8, 1), NONE);
        due("what 4", x.person(0, 4), NONE);
        for (int far : FAR) {
            due("person(" + far + ", 0)", x.person(far, 0), NONE);
            due("person(0, " + far + ")", x.person(0, far), NONE);
        }
        x.fill(0, 7);
        due("one who is not alive is told still", x.person(7, 1), 80);
        due("without people", new OpenGraves().person(0, 0), NONE);
    }

    private static void counts() {
        check.sentence("The SUM of dies (what 0; cut as told), of takes (1; not cut), of harm (2; cut as told) of a PERSON now (ALIVE or not);");
        counted("0-1", 0, -1, 0);
        counted("0", 0, 0, 0);
        counted("100", 100, 100, 100);
        counted("101", 100, 101, 101);
        counted("999", 100, 999, 999);
        counted("1000", 100, 1000, 999);
        counted("9999*9999", 100, 1000000, 999);
        counted("0-9999*9999", 0, -1000000, 0);
        check.sentence("NOTHING when there is none such, or for others.");
        OpenGraves x = check.good(ONE, 1);
        due("the first", x.counts(0, 0), 5);
        due("one behind the last", x.counts(1, 0), NOTHING);
        due("what 3", x.counts(0, 3), NOTHING);
        for (int far : FAR) {
            due("counts(" + far + ", 0)", x.counts(far, 0), NOTHING);
            due("counts(0, " + far + ")", x.counts(0, far), NOTHING);
        }
    }

    private static void counted(String sum, long dies, long takes, long harm) {
        OpenGraves x = check.good("grave g long 5 deep 6 due 2;" + ONE + "dies " + sum + ";takes " + sum + ";harm " + sum + ";", 5);
        for (int turn = 0; turn < 2; turn++) {
            due("dies " + sum, x.counts(0, 0), dies);
            due("takes " + sum, x.counts(0, 1), takes);
            due("harm " + sum, x.counts(0, 2), harm);
            x.fill(0, 0);
        }
        due("the second turn was of one who is not alive", x.person(0, 3), 0);
    }

    private static void next() {
        check.sentence("The NEXT GRAVE for a PERSON who is ALIVE; NONE without one, or when there is none such.");
        OpenGraves x = check.good("grave g long 5 deep 6 due 2;grave h long 5 deep 5 due 1;" + ONE
                + "person q tall 6 age 1 will 1;person r tall 5 age 1 will 1;", 5);
        due("next(0)", x.next(0), 0);
        due("of one who fits nowhere", x.next(1), NONE);
        due("one behind the last", x.next(3), NONE);
        for (int far : FAR) {
            due("next(" + far + ")", x.next(far), NONE);
        }
        x.fill(1, 0);
        due("of one who is not alive, though one asks", x.next(0), NONE);
        due("of another it is there still", x.next(2), 0);
        x.fill(0, 2);
        due("without one", x.next(1), NONE);
    }

    private static void kept() {
        check.sentence("Of what is told as KEPT, the k-th from the oldest on: 0 MONTH, 1 PERSON, 2 GRAVE (NONE), 3 how. NONE when there is none such, or for others.");
        OpenGraves x = check.good("grave g long 5 deep 6 due 9;" + EIGHT, 9);
        due("kept(0, 0) of none", x.kept(0, 0), NONE);
        x.months(3);
        x.fill(0, 4);
        long[] want = {3, 4, 0, 3};
        for (int what = 0; what < 4; what++) {
            due("kept(0, " + what + ")", x.kept(0, what), want[what]);
        }
        due("one behind the last", x.kept(1, 1), NONE);
        due("what 4", x.kept(0, 4), NONE);
        for (int far : FAR) {
            due("kept(" + far + ", 1)", x.kept(far, 1), NONE);
            due("kept(0, " + far + ")", x.kept(0, far), NONE);
        }
    }

    // ---- promises 23 to 29

    private static void dig() {
        check.sentence("how deep it is then; NONE, refused (2), when it is FILLED, 9 feet deep, or there is none such.");
        OpenGraves x = check.good("grave g long 5 deep 8 due 2;grave h long 5 deep 0 due 2;grave i long 5 deep 3 due 2;" + ONE, 4);
        due("from 0", x.dig(1), 1);
        due("from 8", x.dig(0), 9);
        x.fill(2, 0);
        String before = Check.state(x);
        due("9 feet deep", x.dig(0), NONE);
        due("filled", x.dig(2), NONE);
        due("one behind the last", x.dig(3), NONE);
        for (int far : FAR) {
            due("dig(" + far + ")", x.dig(far), NONE);
        }
        due("refused", x.status(2), 3 + FAR.length);
        due("all stays", before.equals(Check.state(x)), true);
    }

    private static void fill() {
        check.sentence("true; false, refused (2), when it is FILLED, he does not FIT, is not ALIVE, or there are none such.");
        OpenGraves x = check.good("grave g long 5 deep 8 due 2;grave h long 9 deep 0 due 2;grave i long 5 deep 0 due 2;" + ONE
                + "person q tall 6 age 1 will 1;person r tall 5 age 1 will 1;person s tall 5 age 99 will 1;"
                + "dies max(0,age-98)*100;", 8);
        due("p into g", x.fill(0, 0), true);
        x.chance(1);
        due("s has died", x.person(3, 3), 0);
        String before = Check.state(x);
        due("g is filled", x.fill(0, 2), false);
        due("q does not fit", x.fill(2, 1), false);
        due("p is in a grave", x.fill(1, 0), false);
        due("s, in the churchyard", x.fill(1, 3), false);
        due("no such grave", x.fill(3, 2), false);
        due("no such person", x.fill(1, 4), false);
        for (int far : FAR) {
            due("fill(" + far + ", 2)", x.fill(far, 2), false);
            due("fill(1, " + far + ")", x.fill(1, far), false);
        }
        due("refused", x.status(2), 6 + 2 * FAR.length);
        due("all stays", before.equals(Check.state(x)), true);
        due("q fits into h", x.fill(1, 1), true);
        due("r into i, which does not ask", x.fill(2, 2), true);
    }

    private static void talk() {
        check.sentence("A PERSON is as willing as told (0 .. 9): true; false, refused (2), when he is that, is not ALIVE, there is none such, or for others.");
        OpenGraves x = check.good("grave g long 5 deep 8 due 2;" + ONE + "person q tall 5 age 1 will 1;", 3);
        due("talk(0, 0)", x.talk(0, 0), true);
        due("talk(0, 9)", x.talk(0, 9), true);
        due("will", x.person(0, 2), 9);
        x.fill(0, 1);
        String before = Check.state(x);
        due("he is that", x.talk(0, 9), false);
        due("10", x.talk(0, 10), false);
        due("not alive", x.talk(1, 2), false);
        due("one behind the last", x.talk(2, 2), false);
        for (int far : FAR) {
            due("talk(" + far + ", 2)", x.talk(far, 2), false);
            due("talk(0, " + far + ")", x.talk(0, far), false);
        }
        due("refused", x.status(2), 4 + 2 * FAR.length);
        due("all stays", before.equals(Check.state(x)), true);
    }

    private static void months() {
        check.sentence("n MONTHS (1 .. 100): how many were TAKEN; NONE, refused (3), when it can't be (beyond MONTH 999).");
        OpenGraves x = check.good("grave g long 5 deep 6 due 1;grave h long 5 deep 6 due 30;grave i long 5 deep 6 due 9;" + EIGHT
                + "comes age=10 and month=3;", 12);
        String before = Check.state(x);
        due("months(0)", x.months(0), NONE);
        due("months(101)", x.months(101), NONE);
        for (int far : FAR) {
            due("months(" + far + ")", x.months(far), NONE);
        }
        due("refused", x.status(3), 2 + FAR.length);
        due("all stays", before.equals(Check.state(x)), true);
        due("months(1)", x.months(1), 1);
        // a comes into i, due ahead of h, in month 3; h takes in month 29: who came is not told
        due("months(100)", x.months(100), 1);
        due("three are kept", x.has(6), 3);
        due("month", x.has(2), 101);
        Check.advance(x, 900);
        due("beyond 999 by one", x.months(100), NONE);
        due("all stays at 900", x.has(2), 900);
        due("up to 999", x.months(99), 0);
        due("month 999", x.has(2), 999);
        due("one more", x.months(1), NONE);
        OpenGraves y = check.good(ONE, 1);
        Check.advance(y, 899);
        due("a hundred up to 999", y.months(100), 0);
        due("month 999", y.has(2), 999);
    }

    private static void chance() {
        check.sentence("n MONTHS by the seed (1 .. 100), one ACT: how many DIED; NONE, refused (3), when it can't be.");
        OpenGraves x = check.good("grave g long 5 deep 6 due 1;" + EIGHT + "dies max(0,age-79)*19;", 10);
        String before = Check.state(x);
        due("chance(0)", x.chance(0), NONE);
        due("chance(101)", x.chance(101), NONE);
        for (int far : FAR) {
            due("chance(" + far + ")", x.chance(far), NONE);
        }
        due("refused", x.status(3), 2 + FAR.length);
        due("all stays", before.equals(Check.state(x)), true);
        OpenGraves y = check.good(ONE + "dies 19;", 2);
        y.chance(0);
        y.chance(101);
        due("a refused one draws nothing: the first draw is 18", y.chance(1), 1);
        OpenGraves z = check.good("grave g long 5 deep 6 due 1;" + EIGHT + "dies 0;", 10);
        due("nobody died, though one was taken", z.chance(100), 0);
        due("one was taken", z.has(5), 1);
        due("one act", z.has(8), 1);
        due("month", z.has(2), 100);
        z.undo();
        due("undone at once", z.has(2), 0);
        Check.advance(z, 900);
        due("beyond 999 by one", z.chance(100), NONE);
        due("all stays at 900", z.has(2), 900);
        due("up to 999", z.chance(99), 0);
        due("one more", z.chance(1), NONE);
        OpenGraves all = check.good(EIGHT + "dies 100;", 9);
        due("all eight", all.chance(100), 8);
        due("nobody is left to die", all.chance(1), 0);
    }

    private static void undo() {
        check.sentence("The latest ACT is undone (the seed stays): true; false, refused (4), when none can be.");
        OpenGraves x = check.good("grave g long 5 deep 6 due 1;" + ONE + "dies 19;", 3);
        due("undo() of none", x.undo(), false);
        due("refused", x.status(4), 1);
        String before = Check.state(x);
        due("he dies of 18", x.chance(1), 1);
        due("undo()", x.undo(), true);
        due("all as ahead of it", before.equals(Check.state(x)), true);
        // the seed stays as the draw left it: the next one is 99
        due("he does not die of 99", x.chance(1), 0);
        x.undo();
        due("undo() of none any more", x.undo(), false);
        due("refused", x.status(4), 2);
        due("all stays", before.equals(Check.state(x)), true);
        // a seed is no act
        x.seed(1);
        due("undo() of a seed", x.undo(), false);
        due("nor is it undone: 18 again", x.chance(1), 1);
        OpenGraves y = check.good("grave g long 5 deep 5 due 4;" + ONE, 2);
        y.dig(0);
        String dug = Check.state(y);
        y.talk(0, 9);
        String talked = Check.state(y);
        y.months(1);
        due("undo months", y.undo() && talked.equals(Check.state(y)), true);
        due("undo talk", y.undo() && dug.equals(Check.state(y)), true);
        y.fill(0, 0);
        due("undo fill", y.undo() && dug.equals(Check.state(y)), true);
        due("undo dig", y.undo() && y.grave(0, 1) == 5, true);
    }

    private static void seed() {
        check.sentence("The seed: true; false, refused (5), when it is below 0. (It is 1 at first.)");
        OpenGraves x = check.good(ONE + "dies 1;", 2);
        due("seed(42)", x.seed(42), true);
        due("seed(-1)", x.seed(-1), false);
        due("seed of the least number", x.seed(Integer.MIN_VALUE), false);
        due("refused", x.status(5), 2);
        due("42 stays: 0 is below 1", x.chance(1), 1);
        due("seed(0)", x.seed(0), true);
        due("seed of the greatest number", x.seed(Integer.MAX_VALUE), true);
        due("refused no more", x.status(5), 2);
        dies(1, "18", 0);
        OpenGraves first = check.good(ONE + "dies 19;", 2);
        due("of 1 at first: 18 is below 19", first.chance(1), 1);
        first = check.good(ONE + "dies 18;", 2);
        due("of 1 at first: 18 is not below 18", first.chance(1), 0);
    }
}

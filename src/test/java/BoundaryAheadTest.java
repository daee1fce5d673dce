/**
 * Terms, part III (AHEAD, a ROW OF GRAVES, to PERSUADE, an ENEMY, ODDS, SEEN, WILLS, TELLING), and promises 13 to 22: one
 * test for each sentence that names a boundary case, in their order; the answers are worked out by hand.
 */
public final class BoundaryAheadTest {
    private static final int NONE = OpenGraves.NONE;
    private static final long NOTHING = OpenGraves.NOTHING;
    private static final int[] FAR = {Integer.MIN_VALUE, -1000, -2, 1000, Integer.MAX_VALUE};
    private static final Check check = new Check();
    private static final String ONE = "person p tall 5 age 50 will 5;";
    private static final String EIGHT = "person a tall 5 age 10 will 1;person b tall 5 age 20 will 2;"
            + "person c tall 5 age 30 will 3;person d tall 5 age 40 will 4;person e tall 5 age 50 will 5;"
            + "person f tall 5 age 60 will 6;person s tall 5 age 70 will 7;person t tall 5 age 80 will 8;";
    /** All graves that there can be, alike. */
    private static final String SIX = "grave g long 9 deep 6 due 9;grave h long 9 deep 6 due 9;grave i long 9 deep 6 due 9;"
            + "grave j long 9 deep 6 due 9;grave k long 9 deep 6 due 9;grave l long 9 deep 6 due 9;";
    /** Behind 29 months g takes the more willing one; behind 30 h takes p, if he is left: q does not fit. */
    private static final String THIRTY = "grave g long 9 deep 6 due 29;grave h long 5 deep 6 due 30;"
            + "person p tall 5 age 1 will 0;person q tall 6 age 1 will 5;takes will;comes not all;";
    /** Of a will w p comes in the month behind 9 - w months. */
    private static final String RISING = "grave g long 5 deep 6 due 30;person p tall 5 age 50 will 0;heart will+1;";

    public static void main(String[] args) {
        ahead();
        rowsOfGraves();
        leastHarm();
        ofLikeRowsTheFirst();
        persuading();
        enemyFeet();
        enemyMonths();
        enemyRows();
        oddsOfRows();
        seenRows();
        willsOfOne();
        telling();
        full();
        later();
        filled();
        taken();
        row();
        persuade();
        enemy();
        odds();
        see();
        wills();
        tells();
        check.close("BoundaryAheadTest");
    }

    private static void due(String call, long got, long want) {
        check.due(call, got, want);
    }

    private static void due(String call, boolean got, boolean want) {
        check.due(call, got, want);
    }

    /** A grave and a person as in an image of this month. */
    private static OpenGraves inMonth(int month, int dueIn) {
        OpenGraves x = check.good("grave g long 5 deep 6 due 30;" + ONE, 2);
        due("on() in month " + month, Check.goesOn(x, Check.sealed(month / 256, month % 256, 6, dueIn, 255, 1, 50, 5)), true);
        return x;
    }

    // ---- terms, part III

    private static void ahead() {
        check.sentence("AHEAD are MONTHS as they come from now on without DRAWS (60 at most, not beyond MONTH 999).");
        OpenGraves x = check.good("grave g long 5 deep 6 due 30;" + ONE + "dies 100;", 3);
        due("nobody dies ahead", x.later(0, 29), NONE);
        due("behind 30 months", x.later(0, 30), 0);
        due("behind 60 months", x.later(0, 60), 0);
        due("61 are too many", x.later(0, 61), NONE);
        due("taken in 60 months", x.taken(60), 1);
        due("taken in 61 months", x.taken(61), NONE);
        due("now is now", x.has(2), 0);
        OpenGraves last = inMonth(939, 30);
        due("60 months up to 999", last.later(0, 60), 0);
        due("taken in 60 months up to 999", last.taken(60), 1);
        last = inMonth(940, 30);
        due("60 months up to 1000", last.later(0, 60), NONE);
        due("59 months up to 999", last.later(0, 59), 0);
        due("taken in 60 months up to 1000", last.taken(60), NONE);
        due("taken in 59 months up to 999", last.taken(59), 1);
        last = inMonth(999, 1);
        due("0 months in the last month", last.taken(0), 0);
        due("1 month behind the last", last.taken(1), NONE);
        due("not filled any more", last.filled(0), NONE);
    }

    private static void rowIs(OpenGraves x, int filled, int harm, int... people) {
        due("row(0)", x.row(0), filled);
        due("row(1)", x.row(1), harm);
        for (int g = 0; g < people.length; g++) {
            due("row(" + (2 + g) + ")", x.row(2 + g), people[g]);
        }
    }

    private static void rowsOfGraves() {
        check.sentence("A ROW OF GRAVES is a PERSON who is ALIVE and FITS, or nobody, for each GRAVE that ASKS now, no one twice");
        OpenGraves x = check.good("grave g long 5 deep 5 due 9;grave h long 4 deep 6 due 9;grave i long 5 deep 6 due 9;"
                + "grave j long 6 deep 9 due 9;" + ONE + "person q tall 7 age 1 will 1;", 6);
        // g does not ask, h is a foot too short, j could have p too; q fits nowhere
        rowIs(x, 1, 4, NONE, NONE, NONE, 0);
        x.fill(0, 0);
        rowIs(x, 0, 0, NONE, NONE, NONE, NONE);
        rowIs(check.good(SIX, 6), 0, 0, NONE, NONE, NONE, NONE, NONE, NONE);
        rowIs(check.good(EIGHT, 8), 0, 0);
        rowIs(new OpenGraves(), 0, 0);
    }

    private static void leastHarm() {
        check.sentence("of those by which most are FILLED the one with the least harm (the SUM of harm of each, 0 .. 999: below is 0, above 999) together;");
        String two = "grave g long 9 deep 6 due 9;grave h long 9 deep 6 due 9;person p tall 1 age 1 will 1;person q tall 1 age 2 will 1;";
        rowIs(check.good(two + "harm (age-1)*9999;", 5), 2, 999, 0, 1);
        String one = "grave g long 9 deep 6 due 9;person p tall 1 age 2 will 1;person q tall 1 age 1 will 1;";
        rowIs(check.good(one + "harm 997+age;", 4), 1, 998, 1);
        // 1000 is 999, as the other's harm: of like ones the first
        rowIs(check.good(one + "harm 998+age;", 4), 1, 999, 0);
        rowIs(check.good(one + "harm 9999*age;", 4), 1, 999, 0);
        rowIs(check.good(one + "harm age-1;", 4), 1, 0, 1);
        // 0 and -1 are both 0
        rowIs(check.good(one + "harm age-2;", 4), 1, 0, 0);
        rowIs(check.good(one + "harm 0-9999*9999;", 4), 1, 0, 0);
        // the most harm that there can be: six times 999
        rowIs(check.good(SIX + EIGHT + "harm 9999;", 15), 6, 5994, 0, 1, 2, 3, 4, 5);
        // to fill all, the least harm must go where it is worse by itself
        OpenGraves x = check.good("grave g long 9 deep 6 due 9;grave h long 3 deep 6 due 9;person p tall 3 age 0 will 1;"
                + "person q tall 9 age 99 will 1;harm age*99;", 5);
        rowIs(x, 2, 999, 1, 0);
    }

    private static void ofLikeRowsTheFirst() {
        check.sentence("of like ones the first (GRAVE by GRAVE nobody, then PEOPLE by numbers).");
        rowIs(check.good(SIX + ONE, 7), 1, 4, NONE, NONE, NONE, NONE, NONE, 0);
        String five = "person a tall 5 age 1 will 1;person b tall 5 age 1 will 1;person c tall 5 age 1 will 1;"
                + "person d tall 5 age 1 will 1;person e tall 5 age 1 will 1;";
        rowIs(check.good(SIX + five, 11), 5, 40, NONE, 0, 1, 2, 3, 4);
        rowIs(check.good("grave g long 9 deep 6 due 9;" + five, 6), 1, 8, 0);
        // what was the best ahead of a talk, or of another parish, is not any more
        OpenGraves x = check.good("grave g long 9 deep 6 due 9;person p tall 1 age 1 will 8;person q tall 1 age 1 will 4;", 3);
        rowIs(x, 1, 1, 0);
        x.talk(0, 0);
        rowIs(x, 1, 5, 1);
        Check.put(x, SIX + EIGHT);
        x.parish();
        rowIs(x, 6, 21, 2, 3, 4, 5, 6, 7);
        Check.put(x, SIX + EIGHT + "harm age;");
        x.parish();
        rowIs(x, 6, 210, 0, 1, 2, 3, 4, 5);
        Check.put(x, SIX.substring(0, 2 * (SIX.length() / 6)) + five);
        x.parish();
        rowIs(x, 2, 16, 0, 1, NONE);
        Check.put(x, SIX.substring(0, SIX.length() / 6) + ONE);
        x.parish();
        rowIs(x, 1, 4, 0, NONE);
        // the six of least harm are c to t; the first row has them by their numbers
        rowIs(check.good(SIX + EIGHT, 14), 6, 6 + 5 + 4 + 3 + 2 + 1, 2, 3, 4, 5, 6, 7);
    }

    private static void persuades(String test, int will, int want) {
        OpenGraves x = check.good("person p tall 5 age 50 will " + will + ";comes " + test + ";", 2);
        due("will " + will + ", comes " + test, x.persuade(0), want);
        due("he is as he was", x.person(0, 2), will);
    }

    private static void persuading() {
        check.sentence("To PERSUADE one is the least will (0 .. 9) no less than his, by which the TEST of comes would hold for him now, as things are.");
        persuades("all", 0, 0);
        persuades("all", 9, 9);
        persuades("not all", 0, NONE);
        persuades("will=0", 0, 0);
        persuades("will=0", 1, NONE);
        persuades("will=9", 0, 9);
        persuades("will=9", 9, 9);
        persuades("will>9", 0, NONE);
        persuades("will<3", 2, 2);
        persuades("will<3", 3, NONE);
        persuades("will=2 or will=7", 3, 7);
        // as things are: what asks counts, whether one fits does not
        OpenGraves x = check.good("grave g long 1 deep 6 due 9;grave h long 1 deep 5 due 9;" + ONE + "comes will>5+asked;", 4);
        due("one asks", x.persuade(0), 7);
        x.dig(1);
        due("two ask", x.persuade(0), 8);
    }

    private static void enemyFeet() {
        check.sentence("An ENEMY with n feet (1 .. 4) digs GRAVES that are not FILLED as many feet deeper now (9 at most each)");
        OpenGraves x = check.good("grave g long 5 deep 5 due 9;" + ONE, 2);
        for (int n = 1; n <= 4; n++) {
            due(n + " feet", x.enemy(n, NONE), 1);
            due("the last of " + n, x.enemy(n, n - 1), 0);
        }
        due("0 feet", x.enemy(0, NONE), NONE);
        due("5 feet", x.enemy(5, NONE), NONE);
        due("nothing is dug by asking", x.grave(0, 1), 5);
        OpenGraves wide = check.good(SIX + ONE, 7);
        due("5 feet, though they could be dug", wide.enemy(5, NONE), NONE);
        due("their first", wide.enemy(5, 0), NONE);
        due("0 feet, though they could be dug", wide.enemy(0, NONE), NONE);
        due("4 feet can be", wide.enemy(4, NONE), 1);
        OpenGraves deep = check.good("grave g long 5 deep 6 due 9;" + ONE, 2);
        due("to 9 feet", deep.enemy(3, NONE), 1);
        due("to 10 feet", deep.enemy(4, NONE), NONE);
        due("there is no such row", deep.enemy(4, 0), NONE);
        OpenGraves two = check.good("grave g long 5 deep 8 due 9;grave h long 5 deep 7 due 9;" + ONE, 3);
        due("three feet can be dug", two.enemy(3, NONE), 1);
        due("one of them in g", two.enemy(3, 0), 0);
        due("two in h", two.enemy(3, 1) + two.enemy(3, 2), 2);
        due("four can't", two.enemy(4, NONE), NONE);
        two.fill(0, 0);
        due("g is filled: two feet can be dug", two.enemy(2, 0), 1);
        due("three can't", two.enemy(3, NONE), NONE);
        two.fill(1, 0);
        OpenGraves nine = check.good("grave g long 5 deep 9 due 9;" + ONE, 2);
        due("none can be dug in 9 feet", nine.enemy(1, NONE), NONE);
        due("without graves", check.good(ONE, 1).enemy(1, NONE), NONE);
    }

    private static void enemyMonths() {
        check.sentence("so that most are TAKEN behind 12 MONTHS;");
        OpenGraves in = check.good("grave g long 5 deep 5 due 12;" + ONE, 2);
        due("due in 12", in.enemy(1, NONE), 1);
        OpenGraves late = check.good("grave g long 5 deep 5 due 13;" + ONE, 2);
        due("due in 13", late.enemy(1, NONE), 0);
        due("yet it is dug", late.enemy(1, 0), 0);
        // who comes is not taken
        OpenGraves comes = check.good("grave g long 5 deep 5 due 1;person p tall 5 age 1 will 9;", 2);
        due("he comes", comes.enemy(1, NONE), 0);
        // those whom a grave takes that asks anyway are taken, too
        OpenGraves both = check.good("grave g long 5 deep 6 due 1;grave h long 5 deep 5 due 1;grave i long 9 deep 0 due 1;" + EIGHT, 11);
        due("by both", both.enemy(1, NONE), 2);
        due("the foot in h", both.enemy(1, 0), 1);
        // months by the seed are none of it
        OpenGraves dies = check.good("grave g long 5 deep 5 due 2;" + ONE + "dies 100;", 3);
        due("without draws", dies.enemy(1, NONE), 1);
    }

    private static void enemyRows() {
        check.sentence("of like ones the first row of GRAVES (rising, one for each foot).");
        OpenGraves x = check.good("grave g long 5 deep 5 due 1;grave h long 5 deep 5 due 1;grave i long 5 deep 4 due 1;" + EIGHT, 11);
        due("one foot", x.enemy(1, NONE), 1);
        due("of like ones in g", x.enemy(1, 0), 0);
        due("two feet", x.enemy(2, NONE), 2);
        due("g", x.enemy(2, 0), 0);
        due("h", x.enemy(2, 1), 1);
        // three feet fill no more than two: the first row with g and h is g g h
        due("three feet", x.enemy(3, NONE), 2);
        due("g, g, h", 100 * x.enemy(3, 0) + 10 * x.enemy(3, 1) + x.enemy(3, 2), 1);
        due("four feet", x.enemy(4, NONE), 3);
        due("g, h, i, i", 1000 * x.enemy(4, 0) + 100 * x.enemy(4, 1) + 10 * x.enemy(4, 2) + x.enemy(4, 3), 122);
        // the last row of all: four feet in the sixth grave
        OpenGraves last = check.good("grave g long 5 deep 0 due 1;grave h long 5 deep 0 due 1;grave i long 5 deep 0 due 1;"
                + "grave j long 5 deep 0 due 1;grave k long 5 deep 0 due 1;grave l long 5 deep 2 due 1;" + ONE, 7);
        due("four feet in the last", last.enemy(4, NONE), 1);
        for (int k = 0; k < 4; k++) {
            due("foot " + k, last.enemy(4, k), 5);
        }
        due("three feet do nothing", last.enemy(3, NONE), 0);
        due("the first row then", last.enemy(3, 0) + last.enemy(3, 1) + last.enemy(3, 2), 0);
    }

    private static void oddsOfRows() {
        check.sentence("ODDS of a GRAVE are by how many of all rows of numbers below 100, one for each who is ALIVE now, it is FILLED behind the next MONTH by the seed.");
        String grave = "grave g long 5 deep 6 due 2;";
        due("dies 0", check.good(grave + ONE + "dies 0;", 3).odds(0), 0);
        due("dies 1", check.good(grave + ONE + "dies 1;", 3).odds(0), 1);
        due("dies 99", check.good(grave + ONE + "dies 99;", 3).odds(0), 99);
        due("dies 100", check.good(grave + ONE + "dies 100;", 3).odds(0), 100);
        due("dies 101", check.good(grave + ONE + "dies 101;", 3).odds(0), 100);
        due("dies -1", check.good(grave + ONE + "dies 0-1;", 3).odds(0), 0);
        due("due in the next month", check.good("grave g long 5 deep 6 due 1;" + ONE + "dies 0;", 3).odds(0), 100);
        due("one who comes", check.good(grave + ONE + "dies 0;comes all;", 4).odds(0), 100);
        due("nobody fits", check.good("grave g long 4 deep 6 due 1;" + ONE + "dies 100;", 3).odds(0), 0);
        due("it does not ask", check.good("grave g long 5 deep 5 due 1;" + ONE + "dies 100;", 3).odds(0), 0);
        OpenGraves x = check.good(grave + ONE + "person q tall 5 age 1 will 1;dies 50;", 4);
        due("of two alive: 10000 - 50 * 50", x.odds(0), 7500);
        due("all rows of two", x.odds(NONE), 10000);
        x.fill(0, 0);
        due("filled already, one is alive", x.odds(0), 100);
        OpenGraves dead = check.good(grave + "grave h long 5 deep 6 due 1;" + ONE, 3);
        dead.fill(0, 0);
        due("nobody is alive: one row, of none", dead.odds(NONE), 1);
        due("filled in it", dead.odds(0), 1);
        due("not filled in it", dead.odds(1), 0);
        OpenGraves eight = check.good(SIX + EIGHT + "dies 100;", 15);
        due("all rows of eight", eight.odds(NONE), 10000000000000000L);
        for (int g = 0; g < 6; g++) {
            due("all die, " + g + " is filled", eight.odds(g), 10000000000000000L);
        }
        // the sixth is filled if six at least of eight die by halves: (28 + 8 + 1) / 256 of 10^16
        OpenGraves halves = check.good(SIX + EIGHT + "dies 50;", 15);
        due("six of eight", halves.odds(5), 1445312500000000L);
        due("one of eight", halves.odds(0), 10000000000000000L - 39062500000000L);
        due("the seed is as it was: 18 is below 50, 99 is not", halves.chance(1) > 0 && halves.kept(0, 1) == 0 && halves.person(1, 3) == 1, true);
    }

    private static void seenRows() {
        check.sentence("SEEN are rows of MONTHS AHEAD (0 .. 30), a GRAVE, 1 if it is FILLED behind these, else 0");
        OpenGraves x = check.good(THIRTY, 6);
        due("0 months", Check.sees(x, 0, 0, 0), 1);
        due("30 months", Check.sees(x, 30, 1, 1), 1);
        due("31 months", Check.sees(x, 31, 1, 1), NONE);
        due("255 months", Check.sees(x, 255, 1, 1), NONE);
        due("no such grave", Check.sees(x, 1, 2, 1), NONE);
        due("grave 255", Check.sees(x, 1, 255, 1), NONE);
        due("neither 0 nor 1", Check.sees(x, 1, 1, 2), NONE);
        due("255", Check.sees(x, 1, 1, 255), NONE);
        due("the last good one stays", x.wills(0), 31);
    }

    private static long willsBy(OpenGraves x, int person, int... rows) {
        due("see()", Check.sees(x, rows), rows.length / 3);
        return x.wills(person);
    }

    private static void willsOfOne() {
        check.sentence("WILLS (0 .. 9) that a told PERSON who is ALIVE can have now, so that all is so.");
        OpenGraves x = check.good(RISING, 3);
        due("filled behind 0", willsBy(x, 0, 0, 0, 1), 0);
        due("not filled behind 0", willsBy(x, 0, 0, 0, 0), 1023);
        due("filled behind 1, by will 9", willsBy(x, 0, 1, 0, 1), 512);
        due("not filled behind 1", willsBy(x, 0, 1, 0, 0), 511);
        due("filled behind 9: all but will 0", willsBy(x, 0, 9, 0, 1), 1022);
        due("not filled behind 9: will 0 alone", willsBy(x, 0, 9, 0, 0), 1);
        due("filled behind 10", willsBy(x, 0, 10, 0, 1), 1023);
        due("not filled behind 10", willsBy(x, 0, 10, 0, 0), 0);
        due("filled behind 30", willsBy(x, 0, 30, 0, 1), 1023);
        due("all is so: will 5 alone", willsBy(x, 0, 5, 0, 1, 4, 0, 0), 32);
        due("all can't be so", willsBy(x, 0, 4, 0, 1, 5, 0, 0), 0);
        due("his own will does not matter", x.talk(0, 3) && x.wills(0) == 0, true);
        OpenGraves y = check.good(THIRTY, 6);
        due("of p behind 30", willsBy(y, 0, 30, 1, 1), 31);
        due("of q behind 30", y.wills(1), 1022);
        due("of p behind 30, not filled", willsBy(y, 0, 30, 1, 0), 992);
        due("of q behind 30, not filled", y.wills(1), 1);
        due("behind 29 g is filled anyway", willsBy(y, 0, 29, 0, 1), 1023);
        due("behind 28 it is not", willsBy(y, 0, 28, 0, 1), 0);
    }

    private static void tellsOf(OpenGraves x, int person, int months, int grave, int left) {
        due("months told of " + person, x.tells(person, 0), months);
        due("grave told of " + person, x.tells(person, 1), grave);
        due("left of " + person, x.tells(person, 2), left);
    }

    private static OpenGraves thirtyInMonth(int month) {
        OpenGraves x = check.good(THIRTY, 6);
        due("on()", Check.goesOn(x, Check.sealed(month / 256, month % 256, 6, 29, 255, 6, 30, 255, 1, 1, 0, 1, 1, 5)), true);
        return x;
    }

    private static void telling() {
        check.sentence("TELLING is the number of MONTHS AHEAD (1 .. 30), the GRAVE, by which, FILLED or not, the most of these left are fewest;");
        tellsOf(check.good(THIRTY, 6), 0, 30, 1, 5);
        tellsOf(check.good(THIRTY, 6), 1, 30, 1, 9);
        // up to the last month it tells, beyond that none does
        tellsOf(thirtyInMonth(969), 0, 30, 1, 5);
        tellsOf(thirtyInMonth(970), 0, 1, 0, 10);
        OpenGraves x = check.good(RISING, 3);
        tellsOf(x, 0, 5, 0, 5);
        Check.sees(x, 5, 0, 1);
        // 5 to 9 are left: behind 1 month 9 is told from four others, behind 2 two from three
        tellsOf(x, 0, 2, 0, 3);
        Check.sees(x, 5, 0, 1, 4, 0, 0);
        // 5 alone is left
        tellsOf(x, 0, 1, 0, 1);
        check.sentence("of like ones the first, MONTH by MONTH, GRAVE by GRAVE.");
        // p of will 9 comes, then q does: both graves tell it, in all months up to the 29th
        OpenGraves y = check.good("grave g long 5 deep 6 due 30;grave h long 5 deep 6 due 30;" + ONE
                + "person q tall 5 age 60 will 0;comes will=9 and asked=2 or asked=1 and age=60;heart 0;", 6);
        tellsOf(y, 0, 1, 0, 9);
        OpenGraves none = check.good("grave g long 5 deep 1 due 30;grave h long 5 deep 1 due 30;" + ONE, 3);
        tellsOf(none, 0, 1, 0, 10);
        // of h alone: g never asks
        OpenGraves second = check.good("grave g long 5 deep 1 due 30;grave h long 5 deep 6 due 30;" + ONE, 3);
        tellsOf(second, 0, 1, 1, 9);
    }

    /** As many graves and people as there can be: the last of each counts as the first does. */
    private static void full() {
        check.sentence("a GRAVE, 1 if it is FILLED behind these, else 0");
        // nobody comes; in month 8 each of the six takes the oldest who is left: t, s, f, e, d, c
        OpenGraves x = check.good(SIX + EIGHT, 14);
        due("behind 8 months", x.later(5, 8), NONE);
        due("behind 9 months", x.later(5, 9), 2);
        due("filled", x.filled(5), 9);
        due("taken", x.taken(9), 6);
        // with will 9 one comes into the first grave in the first month
        tellsOf(x, 0, 1, 0, 9);
        tellsOf(x, 7, 1, 0, 9);
        due("not filled behind 8", willsBy(x, 7, 8, 5, 0), 1023);
        due("filled behind 8", willsBy(x, 7, 8, 5, 1), 0);
        due("filled behind 9", willsBy(x, 7, 9, 5, 1), 1023);
        tellsOf(x, 7, 1, 0, 9);
        due("the last in the last", x.fill(5, 7), true);
        due("now", x.filled(5), 0);
        due("behind 60 months", x.later(5, 60), 7);
        due("taken", x.taken(60), 5);
        tellsOf(x, 6, 1, 0, 9);
        // only the fifth is left: a comes into it, or not
        for (int g = 0; g < 5; g++) {
            x.fill(g, 6 - g);
        }
        x.undo();
        tellsOf(x, 0, 1, 4, 9);
    }

    // ---- promises 13 to 22

    private static void later() {
        check.sentence("Who is in a GRAVE behind n MONTHS AHEAD (0 .. 60); NONE when nobody is, there is none such, or n can't be.");
        OpenGraves x = check.good("grave g long 5 deep 6 due 2;grave h long 4 deep 6 due 2;grave i long 9 deep 1 due 9;" + EIGHT, 11);
        x.fill(2, 0);
        due("now, in i", x.later(2, 0), 0);
        due("now, in g", x.later(0, 0), NONE);
        due("behind 1", x.later(0, 1), NONE);
        due("behind 2 the oldest", x.later(0, 2), 7);
        due("behind 60", x.later(0, 60), 7);
        due("nobody is in h", x.later(1, 60), NONE);
        due("61", x.later(2, 61), NONE);
        due("-1", x.later(2, -1), NONE);
        due("one behind the last grave", x.later(3, 0), NONE);
        due("grave -1", x.later(-1, 0), NONE);
        for (int far : FAR) {
            due("later(" + far + ", 0)", x.later(far, 0), NONE);
            due("later(2, " + far + ")", x.later(2, far), NONE);
        }
    }

    private static void filled() {
        check.sentence("Behind how many MONTHS AHEAD (0: now; 60 at most) a GRAVE is FILLED first; NONE when it is not, or there is none such.");
        OpenGraves x = check.good("grave g long 5 deep 6 due 30;grave h long 4 deep 6 due 2;grave i long 9 deep 1 due 9;" + EIGHT, 11);
        due("behind 30", x.filled(0), 30);
        due("nobody fits", x.filled(1), NONE);
        due("it does not ask", x.filled(2), NONE);
        x.fill(2, 0);
        due("now", x.filled(2), 0);
        due("one behind the last", x.filled(3), NONE);
        due("grave -1", x.filled(-1), NONE);
        for (int far : FAR) {
            due("filled(" + far + ")", x.filled(far), NONE);
        }
        due("30 months up to 999", inMonth(969, 30).filled(0), 30);
        due("30 months up to 1000", inMonth(970, 30).filled(0), NONE);
        due("1 month up to 999", inMonth(998, 1).filled(0), 1);
        OpenGraves last = inMonth(999, 1);
        due("no month comes", last.filled(0), NONE);
        last.fill(0, 0);
        due("but now it is filled", last.filled(0), 0);
        // one who comes fills it in the first month
        due("first by one who comes", check.good("grave g long 5 deep 6 due 30;" + ONE + "comes month=1;", 3).filled(0), 2);
    }

    private static void taken() {
        check.sentence("How many are TAKEN in n MONTHS AHEAD (0 .. 60); NONE when n can't be.");
        OpenGraves x = check.good("grave g long 5 deep 6 due 30;grave h long 5 deep 6 due 2;grave i long 9 deep 1 due 9;" + EIGHT, 11);
        x.fill(2, 0);
        due("0", x.taken(0), 0);
        due("1", x.taken(1), 0);
        due("2", x.taken(2), 1);
        due("29", x.taken(29), 1);
        due("30", x.taken(30), 2);
        due("60", x.taken(60), 2);
        due("61", x.taken(61), NONE);
        due("-1", x.taken(-1), NONE);
        for (int far : FAR) {
            due("taken(" + far + ")", x.taken(far), NONE);
        }
        x.months(30);
        due("those taken already are not counted", x.taken(60), 0);
        due("who comes is not taken", check.good("grave g long 5 deep 6 due 1;" + ONE + "comes all;", 3).taken(60), 0);
        due("in month 999", inMonth(999, 1).taken(0), 0);
    }

    private static void row() {
        check.sentence("the PERSON for the GRAVE of number k (what 2 + k; NONE nobody, or it does not ASK). NONE when there is none such, or for others.");
        OpenGraves x = check.good(SIX + EIGHT, 14);
        due("the sixth", x.row(7), 7);
        due("one behind the last", x.row(8), NONE);
        due("what -1", x.row(-1), NONE);
        for (int far : FAR) {
            due("row(" + far + ")", x.row(far), NONE);
        }
        OpenGraves two = check.good("grave g long 5 deep 5 due 9;grave h long 4 deep 6 due 9;" + ONE, 3);
        due("it does not ask", two.row(2), NONE);
        due("nobody", two.row(3), NONE);
        due("there is none such", two.row(4), NONE);
        due("0 is a number", two.row(0), 0);
        OpenGraves none = new OpenGraves();
        due("without graves, filled", none.row(0), 0);
        due("without graves, harm", none.row(1), 0);
        due("without graves, a grave", none.row(2), NONE);
    }

    private static void persuade() {
        check.sentence("To PERSUADE a PERSON who is ALIVE: the will; NONE by none, or when there is none such.");
        OpenGraves x = check.good("grave g long 5 deep 6 due 9;" + EIGHT + "comes will=age/10 and age<80;", 10);
        due("the will he has", x.persuade(0), 1);
        due("by none", x.persuade(7), NONE);
        due("one behind the last", x.persuade(8), NONE);
        due("person -1", x.persuade(-1), NONE);
        for (int far : FAR) {
            due("persuade(" + far + ")", x.persuade(far), NONE);
        }
        x.fill(0, 0);
        due("one who is not alive", x.persuade(0), NONE);
    }

    private static void enemy() {
        check.sentence("how many are TAKEN (k NONE), the GRAVE of the k-th foot. NONE when so many feet can't be dug, n can't be, MONTH + 12 is above 999, or there is none such.");
        OpenGraves x = check.good("grave g long 5 deep 0 due 9;grave h long 5 deep 5 due 9;" + ONE, 3);
        due("k NONE", x.enemy(2, NONE), 1);
        due("k 0", x.enemy(2, 0), 0);
        due("k 1", x.enemy(2, 1), 1);
        due("k 2", x.enemy(2, 2), NONE);
        due("k -2", x.enemy(2, -2), NONE);
        for (int far : FAR) {
            due("enemy(" + far + ", NONE)", x.enemy(far, NONE), NONE);
            due("enemy(1, " + far + ")", x.enemy(1, far), NONE);
        }
        OpenGraves last = check.good("grave g long 5 deep 5 due 12;" + ONE, 2);
        due("on()", Check.goesOn(last, Check.sealed(3, 219, 5, 12, 255, 1, 50, 5)), true);
        due("in month 987", last.enemy(1, NONE), 1);
        due("the foot in month 987", last.enemy(1, 0), 0);
        last.months(1);
        due("in month 988", last.enemy(1, NONE), NONE);
        due("the foot in month 988", last.enemy(1, 0), NONE);
    }

    private static void odds() {
        check.sentence("ODDS of a GRAVE; all rows for the GRAVE NONE. NOTHING when there is none such, or at MONTH 999.");
        OpenGraves x = check.good("grave g long 5 deep 6 due 9;" + ONE, 2);
        due("of it", x.odds(0), 5);
        due("all rows", x.odds(NONE), 100);
        due("one behind the last", x.odds(1), NOTHING);
        for (int far : FAR) {
            due("odds(" + far + ")", x.odds(far), NOTHING);
        }
        due("in month 998", inMonth(998, 1).odds(0), 100);
        due("all rows in month 998", inMonth(998, 1).odds(NONE), 100);
        due("in month 999", inMonth(999, 1).odds(0), NOTHING);
        due("all rows in month 999", inMonth(999, 1).odds(NONE), NOTHING);
        due("nobody, no graves", new OpenGraves().odds(NONE), 1);
    }

    private static void see() {
        check.sentence("The tape (it goes) tells what is SEEN, 1 to 16 rows of three bytes: how many rows; NONE, refused (1), all staying, when it is none such.");
        OpenGraves x = check.good(RISING, 3);
        due("no row", Check.sees(x), NONE);
        due("refused", x.status(1), 1);
        due("nothing is seen", x.has(7), 0);
        due("one row", Check.sees(x, 1, 0, 1), 1);
        due("the tape has gone", x.end(1), false);
        due("of the tape that has gone", x.see(), NONE);
        int[] rows = new int[51];
        java.util.Arrays.fill(rows, 0);
        due("17 rows", Check.sees(x, rows), NONE);
        due("the tape has gone", x.end(1), false);
        due("one byte", Check.sees(x, 0), NONE);
        due("two bytes", Check.sees(x, 0, 0), NONE);
        due("four bytes", Check.sees(x, 0, 0, 0, 0), NONE);
        for (int place = 0; place < 9; place++) {
            int[] wrong = {0, 0, 0, 0, 0, 0, 0, 0, 0};
            wrong[place] = place % 3 == 0 ? 31 : place % 3 == 1 ? 1 : 2;
            due("a wrong byte at " + place + " of three rows", Check.sees(x, wrong), NONE);
        }
        due("refused", x.status(1), 15);
        due("the one row stays", x.has(7), 1);
        due("as it was", x.wills(0), 512);
        due("16 rows", Check.sees(x, java.util.Arrays.copyOf(rows, 48)), 16);
        due("they are instead of it", x.has(7), 16);
        // the sixteenth counts as the first does
        int[] last = java.util.Arrays.copyOf(rows, 48);
        last[45] = 1;
        last[47] = 1;
        due("16 rows", Check.sees(x, last), 16);
        due("by the sixteenth", x.wills(0), 512);
        due("fewer rows", Check.sees(x, 0, 0, 0), 1);
        due("the others are gone", x.wills(0), 1023);
        due("49 bytes", Check.sees(x, java.util.Arrays.copyOf(rows, 49)), NONE);
        due("1600 bytes", Check.sees(x, new int[1600]), NONE);
        OpenGraves none = check.good(ONE, 1);
        due("without graves there is none such", Check.sees(none, 0, 0, 0), NONE);
    }

    private static void wills() {
        check.sentence("WILLS of a PERSON who is ALIVE by what is SEEN (all, if nothing is; MONTHS beyond 999 are by none), as bits. NONE when there is none such.");
        OpenGraves x = check.good("grave g long 5 deep 6 due 9;" + EIGHT, 9);
        due("nothing is seen", x.wills(7), 1023);
        due("one behind the last", x.wills(8), NONE);
        due("person -1", x.wills(-1), NONE);
        for (int far : FAR) {
            due("wills(" + far + ")", x.wills(far), NONE);
        }
        x.fill(0, 0);
        due("one who is not alive", x.wills(0), NONE);
        due("another", x.wills(1), 1023);
        due("30 months up to 999", willsBy(thirtyInMonth(969), 0, 30, 1, 1), 31);
        due("30 months up to 1000", willsBy(thirtyInMonth(970), 0, 30, 1, 1), 0);
        due("30 months up to 1000, not filled", willsBy(thirtyInMonth(970), 0, 30, 1, 0), 0);
        due("one of two rows beyond", willsBy(thirtyInMonth(970), 0, 0, 1, 0, 30, 1, 0), 0);
        due("29 months up to 999", willsBy(thirtyInMonth(970), 0, 29, 0, 1), 1023);
        due("0 months in month 999", willsBy(inMonth(999, 1), 0, 0, 0, 0), 1023);
        due("1 month behind 999", willsBy(inMonth(999, 1), 0, 1, 0, 0), 0);
        due("nothing is seen in month 999", inMonth(999, 1).wills(0), 1023);
    }

    private static void tells() {
        check.sentence("how many WILLS are left at the most (2). NONE without any, without GRAVES, when no MONTH comes, there is none such, or for others.");
        OpenGraves x = check.good(RISING, 3);
        for (int what : new int[] {-1, 3, Integer.MIN_VALUE, Integer.MAX_VALUE}) {
            due("tells(0, " + what + ")", x.tells(0, what), NONE);
        }
        due("one behind the last", x.tells(1, 0), NONE);
        due("person -1", x.tells(-1, 0), NONE);
        for (int far : FAR) {
            due("tells(" + far + ", 0)", x.tells(far, 0), NONE);
        }
        Check.sees(x, 0, 0, 1);
        for (int what = 0; what < 3; what++) {
            due("without any will", x.tells(0, what), NONE);
            due("without graves", check.good(ONE, 1).tells(0, what), NONE);
            due("when no month comes", inMonth(999, 1).tells(0, what), NONE);
        }
        tellsOf(inMonth(998, 9), 0, 1, 0, 9);
        x.fill(0, 0);
        due("one who is not alive", x.tells(0, 0), NONE);
    }
}

/**
 * Terms, part IV (a QUESTION, AN IMAGE), promises 30 to 34, and the 512 calls of an object: one test for each sentence that
 * names a boundary case, in their order; the answers are worked out by hand. In a text with a fault ^ marks its place.
 */
public final class BoundaryQuestionsTest {
    private static final int NONE = OpenGraves.NONE;
    private static final long NOTHING = OpenGraves.NOTHING;
    private static final int[] FAR = {Integer.MIN_VALUE, -1000, -1, 1000, Integer.MAX_VALUE};
    private static final Check check = new Check();
    private static final String GRAVE = "grave g long 5 deep 6 due 3;";
    private static final String ONE = "person p tall 5 age 50 will 5;";
    private static final String EIGHT = "person a tall 5 age 10 will 1;person b tall 5 age 20 will 2;"
            + "person c tall 5 age 30 will 3;person d tall 5 age 40 will 4;person e tall 5 age 50 will 5;"
            + "person f tall 5 age 60 will 6;person s tall 5 age 70 will 7;person t tall 5 age 80 will 8;";
    private static final String SIX = "grave g long 9 deep 6 due 9;grave h long 9 deep 6 due 9;grave i long 9 deep 6 due 9;"
            + "grave j long 9 deep 6 due 9;grave k long 9 deep 6 due 9;grave l long 9 deep 6 due 9;";
    /** Two graves, of which the second is longer, two people, of whom the second fits into the second alone. */
    private static final String TWO = "grave g long 5 deep 6 due 3;grave h long 9 deep 1 due 2;"
            + "person p tall 5 age 50 will 5;person q tall 6 age 60 will 6;";

    public static void main(String[] args) {
        firstAndLast();
        ofAllPeople();
        partsOfQuestions();
        gravesThatThereAreNot();
        faultOne();
        faultFour();
        imageMonth();
        imageRows();
        imageLastByte();
        ask();
        askOfSixteenHundred();
        image();
        octet();
        onLimits();
        onInside();
        onNone();
        onTrue();
        status();
        fiveHundredAndTwelve();
        check.close("BoundaryQuestionsTest");
    }

    private static void due(String call, long got, long want) {
        check.due(call, got, want);
    }

    private static void due(String call, boolean got, boolean want) {
        check.due(call, got, want);
    }

    private static void asks(OpenGraves x, String question, long want) {
        due("ask() of <" + question + ">", Check.ask(x, question), want);
        due("fault(0) of <" + question + ">", x.fault(0), 0);
        due("fault(1) of <" + question + ">", x.fault(1), NONE);
    }

    /** A question with a fault, on a new object each, as an object's calls are counted. */
    private static void bad(int kind, String marked) {
        check.badQuestion(Check.told(TWO), kind, marked);
    }

    // ---- terms, part IV

    private static void firstAndLast() {
        check.sentence("first TEST, last TEST (the first, the last PERSON for whom it holds)");
        OpenGraves x = check.good(GRAVE + EIGHT, 9);
        asks(x, "first all", 0);
        asks(x, "last all", 7);
        asks(x, "first age=80", 7);
        asks(x, "last age=10", 0);
        asks(x, "first not all", NONE);
        asks(x, "last not all", NONE);
        asks(x, "first age>20 and age<60", 2);
        asks(x, "last age>20 and age<60", 4);
        OpenGraves nobody = new OpenGraves();
        asks(nobody, "first all", NONE);
        asks(nobody, "last all", NONE);
    }

    private static void ofAllPeople() {
        check.sentence("often TEST (for how many), total SUM (of all together), most SUM, least SUM (the greatest, the least of all; 0 without PEOPLE)");
        OpenGraves x = check.good("grave g long 5 deep 6 due 1;" + EIGHT, 9);
        asks(x, "often all", 8);
        asks(x, "often not all", 0);
        asks(x, "total age", 360);
        asks(x, "most age", 80);
        asks(x, "least age", 10);
        asks(x, "most 0-age", -10);
        asks(x, "least 0-age", -80);
        asks(x, "least 7", 7);
        asks(x, "most 0-1", -1);
        // each SUM is cut at a million, all together are not
        asks(x, "most 9999*9999", 1000000);
        asks(x, "least 0-9999*9999", -1000000);
        asks(x, "total 9999*9999", 8000000);
        asks(x, "total 0-9999*9999", -8000000);
        // all people, alive or not
        x.months(1);
        due("t was taken", x.person(7, 3), 0);
        asks(x, "often all", 8);
        asks(x, "last all", 7);
        asks(x, "total age", 360);
        OpenGraves nobody = check.good(GRAVE, 1);
        asks(nobody, "often all", 0);
        asks(nobody, "total 7", 0);
        asks(nobody, "most 7", 0);
        asks(nobody, "least 7", 0);
        asks(nobody, "most 0-7", 0);
    }

    private static void partsOfQuestions() {
        check.sentence("PART: N; number; age; tall; will; month; alive; fits PART; due PART; ( SUM ) ; min ( SUM , SUM ) ; max ( SUM , SUM ) .");
        OpenGraves x = check.good(TWO, 4);
        bad(1, "total ^asked");
        bad(1, "total ^taken");
        bad(1, "first ^asked=0");
        bad(1, "first 0=^taken");
        bad(1, "total fits^");
        bad(1, "total due^");
        bad(1, "total fits ^+1");
        asks(x, "total fits number*10", 20);
        asks(x, "total fits(number+1)*10", 10);
        asks(x, "total due number+10", 25);
        asks(x, "total due fits 0", 3 + 2);
        asks(x, "total fits min(number,0)", 1);
        check.sentence("(The PERSON's number; 1 if he is ALIVE, else 0; 1 if he FITS in the GRAVE of that number, else 0;");
        OpenGraves eight = check.good(GRAVE + EIGHT, 9);
        asks(eight, "least number", 0);
        asks(eight, "most number", 7);
        asks(eight, "total alive", 8);
        eight.fill(0, 3);
        asks(eight, "total alive", 7);
        asks(eight, "first alive=0", 3);
        // as tall as it is long; alive or not, filled or not
        asks(eight, "total fits 0", 8);
        OpenGraves tall = check.good(GRAVE + "person p tall 6 age 1 will 1;person q tall 5 age 1 will 1;person r tall 4 age 1 will 1;", 4);
        asks(tall, "first fits 0=1", 1);
        asks(tall, "total fits 0", 2);
    }

    private static void gravesThatThereAreNot() {
        check.sentence("in how many MONTHS that GRAVE is due: 0 of those that there are not.)");
        OpenGraves x = check.good(TWO, 4);
        asks(x, "most due 0", 3);
        asks(x, "most due 1", 2);
        asks(x, "most due 2", 0);
        asks(x, "most due 9999", 0);
        asks(x, "most due(9999*9999)", 0);
        asks(x, "most due(0-1)", 0);
        asks(x, "most due(0-9999*9999)", 0);
        asks(x, "total fits 1", 2);
        asks(x, "most fits 2", 0);
        asks(x, "most fits 9999", 0);
        asks(x, "most fits(0-1)", 0);
        asks(x, "most fits(0-9999*9999)", 0);
        OpenGraves none = check.good(ONE, 1);
        asks(none, "most due 0", 0);
        asks(none, "most fits 0", 0);
        OpenGraves six = check.good(SIX + ONE, 7);
        asks(six, "most due 5", 9);
        asks(six, "most due 6", 0);
        asks(six, "most fits 5", 1);
        asks(six, "most fits 6", 0);
        // due in 0 months, and due as it stayed when it was filled
        OpenGraves past = check.good("grave g long 1 deep 6 due 1;" + ONE, 2);
        past.months(5);
        asks(past, "most due 0", 0);
    }

    private static void faultOne() {
        check.sentence("Its FAULTS: 1 as in I (an unknown word at its first byte; what stands behind it, too);");
        OpenGraves x = check.good(TWO, 4);
        bad(1, "^");
        bad(1, " \n ^");
        for (String word : new String[] {"firsts all", "tota 1", "grave", "all", "age", "1", "(", ";", "First all", "totall 1"}) {
            bad(1, "^" + word);
        }
        for (String word : new String[] {"first", "last", "often", "total", "most", "least"}) {
            bad(1, word + "^");
            bad(1, word + " \n^");
            bad(1, word + " ^p");
            bad(1, word + "^1=1");
            bad(1, word + " ^total");
            bad(1, word + " ^ages");
        }
        bad(1, "first age^");
        bad(1, "first age ^age");
        bad(1, "first (age^<1)");
        bad(1, "total ^all");
        bad(1, "total 1^<2");
        bad(1, "total 1234^5");
        bad(1, "total 0000^1");
        bad(1, "total fits^0");
        bad(1, "total 0^fits");
        // what stands behind it
        bad(1, "total 1^;");
        bad(1, "total 1 ^1");
        bad(1, "total 1 ^total 1");
        bad(1, "first all^;");
        bad(1, "first all ^all");
        bad(1, "first all ^x");
        bad(1, "first 1=1^=1");
        bad(1, "total 1^)");
        bad(1, "first all^]");
        bad(1, "total 1^" + (char) 0);
        bad(1, "total 1^" + (char) 255);
        // blanks behind it are nothing
        asks(x, " \n total\n1 \n ", 2);
    }

    private static void faultFour() {
        check.sentence("4 the 7th of ( [ not fits due that is open at once (not until its FACT, fits, due until its PART ends), at it.");
        OpenGraves x = check.good(TWO, 4);
        bad(4, "total fits fits fits fits fits fits ^fits 0");
        bad(4, "total due due due due due due ^due 0");
        bad(4, "total fits due fits due fits due ^(0)");
        bad(4, "total fits due fits due fits due min^(0,1)");
        bad(4, "total ((((((^fits 0))))))");
        bad(4, "total max(max(max(max(max(max(^due 0,1),1),1),1),1),1)");
        bad(4, "first [[[[[[^[all]]]]]]]");
        bad(4, "first not not not not not not ^not all");
        bad(4, "first not not not not not not ^fits 0=1");
        bad(4, "first not not not not not not 1=^due 0");
        bad(4, "first [not [not (fits ^due 0)=1]]");
        bad(4, "first [not [not [(^fits 0)=1]]]");
        // grave 0 is due in 3, grave 3 there is not: 0, then due 0 again
        asks(x, "most due due due due due due 0", 0);
        asks(x, "most due due due due due 0", 3);
        asks(x, "most (((((due 0)))))", 3);
        asks(x, "often not not not not not fits 0=fits 0", 0);
        asks(x, "often not not not not fits(0)=1", 1);
        // until its PART ends: behind that it is open no more
        asks(x, "most due 0+due 0+due 0+due 0+due 0+due 0+due 0+due 0", 24);
        asks(x, "most due 0*due 0/due 0", 3);
        asks(x, "most due due due due due due 0+due due due due due 0", 3);
        asks(x, "most due(due due due due 0)*((((((1))))))", 3);
        asks(x, "most min(due due due due due 0,due due due due due 0)", 3);
        asks(x, "often fits 0=1 and not not not not not not all", 1);
        asks(x, "often not not not not not not all and due 0=3", 2);
        // a 7th that can't stand there is fault 1
        bad(1, "total fits due fits due fits due ^[0]");
        bad(1, "total fits due fits due fits due ^not 0");
    }

    private static OpenGraves emptyIn(int month) {
        OpenGraves x = new OpenGraves();
        Check.advance(x, month);
        return x;
    }

    private static void imageMonth() {
        check.sentence("AN IMAGE: MONTH (two bytes, the higher first)");
        // c is 241, then (3 * 241 + the higher) mod 251, then (3 * that + the lower) mod 251
        check.same("month 0", Check.imageOf(emptyIn(0)), 0, 0, 161);
        check.same("month 1", Check.imageOf(emptyIn(1)), 0, 1, 162);
        check.same("month 255", Check.imageOf(emptyIn(255)), 0, 255, 165);
        check.same("month 256", Check.imageOf(emptyIn(256)), 1, 0, 164);
        check.same("month 999", Check.imageOf(emptyIn(999)), 3, 231, 150);
    }

    private static void imageRows() {
        check.sentence("for each GRAVE how deep it is, in how many MONTHS it is due, who is in it (255: nobody); for each PERSON 1 if he is ALIVE, else 0, his age, his will;");
        OpenGraves x = check.good(TWO, 4);
        check.same("nobody", Check.imageOf(x), Check.sealed(0, 0, 6, 3, 255, 1, 2, 255, 1, 50, 5, 1, 60, 6));
        x.fill(0, 0);
        check.same("person 0 in grave 0", Check.imageOf(x), Check.sealed(0, 0, 6, 3, 0, 1, 2, 255, 0, 50, 5, 1, 60, 6));
        x.fill(1, 1);
        check.same("person 1 in grave 1", Check.imageOf(x), Check.sealed(0, 0, 6, 3, 0, 1, 2, 1, 0, 50, 5, 0, 60, 6));
        OpenGraves far = check.good("grave g long 1 deep 9 due 30;person p tall 2 age 99 will 9;person q tall 2 age 0 will 0;"
                + "dies age*2;comes not all;", 5);
        far.chance(1);
        check.same("the churchyard", Check.imageOf(far), Check.sealed(0, 1, 9, 29, 255, 0, 99, 9, 1, 0, 0));
        OpenGraves nobody = check.good(GRAVE, 1);
        check.same("no people", Check.imageOf(nobody), 0, 0, 6, 3, 255, 147);
        OpenGraves none = check.good(ONE, 1);
        check.same("no graves", Check.imageOf(none), Check.sealed(0, 0, 1, 50, 5));
    }

    private static void imageLastByte() {
        check.sentence("last a byte: all ahead from 241 on, c = (3 c + it) mod 251.");
        // 241, 221, 161; 489 - 251 = 238, 717 - 502 = 215, 900 - 753 = 147; 442 - 251 = 191, 623 - 502 = 121, 368 - 251 = 117
        OpenGraves x = check.good(GRAVE + ONE, 2);
        check.same("by hand", Check.imageOf(x), 0, 0, 6, 3, 255, 1, 50, 5, 117);
        due("117 goes on", Check.goesOn(x, 0, 0, 6, 3, 255, 1, 50, 5, 117), true);
        for (int last : new int[] {0, 116, 118, 241, 250, 251, 255}) {
            due(last + " does not", Check.goesOn(x, 0, 0, 6, 3, 255, 1, 50, 5, last), false);
        }
    }

    // ---- promises 30 to 34

    private static void ask() {
        check.sentence("its answer; NONE of first, last, when its TEST holds for none; NOTHING with a FAULT.");
        OpenGraves x = check.good(TWO, 4);
        x.months(1);
        Check.sees(x, 0, 0, 0);
        String before = Check.state(x);
        asks(x, "first age>99", NONE);
        asks(x, "last age>99", NONE);
        due("of a tape on which nothing is", x.ask(), NOTHING);
        due("its fault", x.fault(0), 1);
        due("its place", x.fault(1), 0);
        Check.put(x, "total 5");
        due("ask()", x.ask(), 10);
        due("the tape has gone", x.end(1), false);
        Check.put(x, "total x");
        due("ask() with a fault", x.ask(), NOTHING);
        due("the tape has gone with a fault, too", x.end(1), false);
        due("refused by ask()", x.status(1), 0);
        due("all stays", before.equals(Check.state(x)), true);
        due("the rules stay", x.counts(0, 0), 5);
    }

    private static void askOfSixteenHundred() {
        check.sentence("if there would be more than 1600.");
        StringBuilder text = new StringBuilder("total 12");
        while (text.length() < 1600) {
            text.append("+1");
        }
        // 8 bytes ahead, then 796 times one more
        OpenGraves x = check.good(ONE, 1);
        for (int turn = 0; turn < 4; turn++) {
            asks(x, text.toString(), 808);
        }
        asks(check.good(ONE, 1), "total 1" + " ".repeat(1593), 1);
        bad(1, "total 1" + " ".repeat(1592) + "+^");
        bad(1, "total 1" + " ".repeat(1592) + "^;");
    }

    private static void image() {
        check.sentence("AN IMAGE is written: how many bytes.");
        due("the shortest", new OpenGraves().image(), 3);
        due("the longest: 2 + 6 * 3 + 8 * 3 + 1", check.good(SIX + EIGHT, 14).image(), 45);
        OpenGraves x = check.good(SIX + EIGHT, 14);
        due("its last byte", x.image() == 45 && x.octet(44) >= 0, true);
        due("behind its last byte", x.octet(45), NONE);
        int[] image = Check.imageOf(x);
        x.months(100);
        due("it goes on", Check.goesOn(x, image), true);
        check.same("as it was", Check.imageOf(x), image);
    }

    private static void octet() {
        check.sentence("Byte k of the latest image(); NONE when there is none such.");
        OpenGraves x = check.good(GRAVE + ONE, 2);
        due("ahead of any", x.octet(0), NONE);
        x.image();
        due("the first", x.octet(0), 0);
        due("the last", x.octet(8), 117);
        due("one behind", x.octet(9), NONE);
        for (int far : FAR) {
            due("octet(" + far + ")", x.octet(far), NONE);
        }
        x.months(1);
        due("of the latest image(), not of now", x.octet(8), 117);
        x.undo();
        Check.goesOn(x, 9);
        due("on() writes none", x.octet(8), 117);
        Check.put(x, "");
        x.parish();
        due("parish() writes none", x.octet(8), 117);
        due("a shorter one", x.image(), 3);
        due("its last", x.octet(2), 161);
        due("what was behind it is gone", x.octet(3), NONE);
    }

    /** A good image of the two, with another byte at a place; its last byte as is due. */
    private static boolean goesOnWith(OpenGraves x, int place, int octet) {
        int[] octets = {0, 7, 6, 3, 255, 1, 2, 255, 1, 50, 5, 1, 60, 6};
        octets[place] = octet;
        return Check.goesOn(x, Check.sealed(octets));
    }

    private static void onLimits() {
        check.sentence("(MONTH 999, ages 99, wills, depths 9, due 30, flags 1 at most;");
        int[] places = {2, 3, 5, 6, 8, 9, 10, 11, 12, 13};
        int[] most = {9, 30, 9, 30, 1, 99, 9, 1, 99, 9};
        OpenGraves x = check.good(TWO, 4);
        int refused = 0;
        for (int k = 0; k < places.length; k++) {
            due("0 at " + places[k], goesOnWith(x, places[k], 0), true);
            due(most[k] + " at " + places[k], goesOnWith(x, places[k], most[k]), true);
            due((most[k] + 1) + " at " + places[k], goesOnWith(x, places[k], most[k] + 1), false);
            due("255 at " + places[k], goesOnWith(x, places[k], 255), false);
            refused += 2;
        }
        due("refused", x.status(5), refused);
        OpenGraves y = check.good(TWO, 4);
        due("month 999", Check.goesOn(y, Check.sealed(3, 231, 6, 3, 255, 1, 2, 255, 1, 50, 5, 1, 60, 6)), true);
        due("is told", y.has(2), 999);
        due("month 1000", Check.goesOn(y, Check.sealed(3, 232, 6, 3, 255, 1, 2, 255, 1, 50, 5, 1, 60, 6)), false);
        due("month 1024", Check.goesOn(y, Check.sealed(4, 0, 6, 3, 255, 1, 2, 255, 1, 50, 5, 1, 60, 6)), false);
        due("month 65535", Check.goesOn(y, Check.sealed(255, 255, 6, 3, 255, 1, 2, 255, 1, 50, 5, 1, 60, 6)), false);
        due("month 255", Check.goesOn(y, Check.sealed(0, 255, 6, 3, 255, 1, 2, 255, 1, 50, 5, 1, 60, 6)), true);
        due("is told", y.has(2), 255);
        due("month 768", Check.goesOn(y, Check.sealed(3, 0, 6, 3, 255, 1, 2, 255, 1, 50, 5, 1, 60, 6)), true);
        due("is told", y.has(2), 768);
    }

    private static void inside(String what, int inG, int inH, int pAlive, int qAlive, boolean want) {
        OpenGraves x = check.good(TWO, 4);
        due(what, Check.goesOn(x, Check.sealed(0, 7, 6, 3, inG, 1, 2, inH, pAlive, 50, 5, qAlive, 60, 6)), want);
    }

    private static void onInside() {
        check.sentence("in a GRAVE one who FITS and is not ALIVE, no one in two), all staying.");
        inside("nobody anywhere, all alive", 255, 255, 1, 1, true);
        inside("nobody anywhere, nobody alive", 255, 255, 0, 0, true);
        inside("p in g", 0, 255, 0, 1, true);
        inside("p in g, alive", 0, 255, 1, 1, false);
        inside("p in h, which does not ask", 255, 0, 0, 1, true);
        inside("q in h", 255, 1, 1, 0, true);
        inside("q in g, a foot too short", 1, 255, 1, 0, false);
        inside("p in g, q in h", 0, 1, 0, 0, true);
        inside("p in both", 0, 0, 0, 0, false);
        inside("one whom there is not", 255, 2, 0, 0, false);
        inside("254", 255, 254, 0, 0, false);
        inside("one whom there is not, in g", 2, 255, 0, 0, false);
        inside("254 in g", 254, 255, 0, 0, false);
        OpenGraves six = check.good(SIX + EIGHT, 14);
        int[] last = {0, 0, 9, 0, 255, 9, 0, 255, 9, 0, 255, 9, 0, 255, 9, 0, 255, 9, 0, 7,
            1, 0, 0, 1, 0, 0, 1, 0, 0, 1, 0, 0, 1, 0, 0, 1, 0, 0, 1, 0, 0, 0, 0, 0};
        due("the eighth in the sixth", Check.goesOn(six, Check.sealed(last)), true);
        due("is told", six.grave(5, 3), 7);
        last[4] = 7;
        due("the eighth in the first, too", Check.goesOn(six, Check.sealed(last)), false);
        due("all stays", six.grave(0, 3), NONE);
    }

    private static void onNone() {
        check.sentence("false, refused (5), when it is none");
        OpenGraves x = check.good(TWO, 4);
        x.seed(42);
        x.months(1);
        x.fill(1, 1);
        Check.sees(x, 0, 0, 0);
        String before = Check.state(x);
        int[] good = Check.sealed(0, 7, 6, 3, 255, 1, 2, 255, 1, 50, 5, 1, 60, 6);
        due("of a tape on which nothing is", x.on(), false);
        due("a byte too few", Check.goesOn(x, java.util.Arrays.copyOf(good, 14)), false);
        due("the tape has gone", x.end(1), false);
        due("a byte too many", Check.goesOn(x, java.util.Arrays.copyOf(good, 16)), false);
        due("a byte too many, the last as due", Check.goesOn(x, Check.sealed(good)), false);
        due("a byte too few, the last as due", Check.goesOn(x, Check.sealed(java.util.Arrays.copyOf(good, 13))), false);
        due("an image of nothing", Check.goesOn(x, 0, 0, 161), false);
        due("1600 bytes", Check.goesOn(x, new int[1600]), false);
        for (int k = 0; k < good.length; k++) {
            int[] other = good.clone();
            other[k]++;
            due("one more at " + k, Check.goesOn(x, other), false);
        }
        due("refused", x.status(5), 7 + good.length);
        due("all stays", before.equals(Check.state(x)), true);
        due("what can be undone stays", x.undo() && x.undo() && !x.undo(), true);
    }

    private static void onTrue() {
        check.sentence("true, all is as it tells, nothing is KEPT or can be undone;");
        OpenGraves x = check.good(TWO + "dies 1;", 5);
        x.seed(42);
        x.months(1);
        x.fill(1, 1);
        Check.sees(x, 0, 0, 0);
        due("on()", Check.goesOn(x, Check.sealed(3, 0, 9, 0, 0, 0, 30, 255, 0, 99, 0, 1, 0, 9)), true);
        due("the tape has gone", x.end(1), false);
        long[] has = {2, 2, 768, 1, 0, 1, 0, 1, 0};
        for (int what = 0; what < has.length; what++) {
            due("has(" + what + ")", x.has(what), has[what]);
        }
        long[][] graves = {{5, 9, 0, 0, 0}, {9, 0, 30, NONE, 0}};
        long[][] people = {{5, 99, 0, 0}, {6, 0, 9, 1}};
        for (int k = 0; k < 2; k++) {
            for (int what = 0; what < 5; what++) {
                due("grave(" + k + ", " + what + ")", x.grave(k, what), graves[k][what]);
            }
            for (int what = 0; what < 4; what++) {
                due("person(" + k + ", " + what + ")", x.person(k, what), people[k][what]);
            }
        }
        due("kept", x.kept(0, 0), NONE);
        due("undo()", x.undo(), false);
        due("the seed stays: 0 is below 1", x.chance(1), 1);
        due("kept from here on", x.kept(0, 0), 768);
        due("the image of nothing", Check.goesOn(new OpenGraves(), 0, 0, 161), true);
    }

    private static void status() {
        check.sentence("How many were refused: 0 feed(), end(); 1 parish(), see(); 2 dig(), fill(), talk(); 3 months(), chance(); 4 undo(); 5 seed(), on(). NONE for others.");
        OpenGraves x = check.good(TWO, 4);
        counts(x, 0, 0, 0, 0, 0, 0);
        x.end(-1);
        counts(x, 1, 0, 0, 0, 0, 0);
        for (int n = 0; n < 81; n++) {
            x.feed(-1, -1, -1, -1, -1);
        }
        counts(x, 2, 0, 0, 0, 0, 0);
        x.parish();
        counts(x, 2, 1, 0, 0, 0, 0);
        x.see();
        counts(x, 2, 2, 0, 0, 0, 0);
        x.dig(2);
        counts(x, 2, 2, 1, 0, 0, 0);
        x.fill(2, 2);
        counts(x, 2, 2, 2, 0, 0, 0);
        x.talk(2, 2);
        counts(x, 2, 2, 3, 0, 0, 0);
        x.months(0);
        counts(x, 2, 2, 3, 1, 0, 0);
        x.chance(0);
        counts(x, 2, 2, 3, 2, 0, 0);
        x.undo();
        counts(x, 2, 2, 3, 2, 1, 0);
        x.seed(-1);
        counts(x, 2, 2, 3, 2, 1, 1);
        x.on();
        counts(x, 2, 2, 3, 2, 1, 2);
        x.ask();
        // what answers NONE without being refused
        x.later(9, 9);
        x.taken(99);
        x.row(99);
        x.enemy(9, 9);
        x.odds(9);
        x.wills(9);
        x.tells(9, 9);
        x.octet(99);
        x.status(99);
        counts(x, 2, 2, 3, 2, 1, 2);
        // a good parish, an act, an image leave them
        Check.put(x, TWO);
        due("parish()", x.parish(), 4);
        x.months(1);
        due("on()", Check.goesOn(x, Check.imageOf(x)), true);
        counts(x, 2, 2, 3, 2, 1, 2);
        due("status(6)", x.status(6), NONE);
        for (int far : FAR) {
            due("status(" + far + ")", x.status(far), NONE);
        }
    }

    private static void counts(OpenGraves x, int... want) {
        for (int what = 0; what < want.length; what++) {
            due("status(" + what + ")", x.status(what), want[what]);
        }
    }

    private static void fiveHundredAndTwelve() {
        check.sentence("An object is used for at most 512 calls after it has been made; what later calls answer is free.");
        OpenGraves fed = new OpenGraves();
        for (int n = 0; n < 511; n++) {
            due("feed number " + n, fed.feed(n, n, n, n, n), n < 80 ? 20 * n + 20 : NONE);
        }
        due("the 512th call: 511 less 80 were refused", fed.status(0), 431);
        OpenGraves undone = new OpenGraves();
        for (int n = 0; n < 511; n++) {
            undone.undo();
        }
        due("the 512th call", undone.status(4), 511);
        OpenGraves one = new OpenGraves();
        // <person p tall 1 age 1 will 1;> is 29 bytes: two feeds, an end, a parish
        one.feed(0x70657273, 0x6f6e2070, 0x2074616c, 0x6c203120, 0x61676520);
        one.feed(0x31207769, 0x6c6c2031, 0x3b202020, 0x20202020, 0x20202020);
        one.end(29);
        one.parish();
        for (int n = 5; n <= 490; n++) {
            due("talk, call " + n, one.talk(0, n % 2 + 2), true);
        }
        due("call 491", one.has(8), 20);
        for (int n = 492; n <= 511; n++) {
            due("undo, call " + n, one.undo(), true);
        }
        due("the 512th call", one.undo(), false);
    }
}

/**
 * Terms, part I (a PARISH as a text), and promises 1 to 7: one test for each sentence that names a boundary case, in their
 * order; the answers are worked out by hand. In a text with a fault ^ marks the fault's place.
 */
public final class BoundaryTextTest {
    private static final int NONE = OpenGraves.NONE;
    private static final int[] FAR = {Integer.MIN_VALUE, -1000, Integer.MAX_VALUE};
    private static final Check check = new Check();
    private static final String[] OWN_WORDS = {"grave", "long", "deep", "due", "person", "tall", "age", "will", "dies",
        "comes", "takes", "heart", "harm", "month", "asked", "taken", "number", "alive", "fits", "or", "and", "not", "all",
        "min", "max"};
    private static final String GRAVE = "grave g long 5 deep 6 due 3;";
    private static final String PERSON = "person p tall 5 age 50 will 5;";

    public static void main(String[] args) {
        statements();
        graves();
        people();
        rulesOneEach();
        partsOfSums();
        comparisons();
        fromTheLeft();
        division();
        million();
        withoutRules();
        names();
        blanks();
        faultOne();
        faultOneAtItself();
        endsTooSoon();
        faultsTwoAndThree();
        faultFour();
        faultFive();
        firstAlongTheText();
        newObject();
        feed();
        end();
        parishCounts();
        parishRefused();
        parishAsAtFirst();
        parishBehindOthers();
        parishOfSixteenHundred();
        fault();
        has();
        letter();
        check.close("BoundaryTextTest");
    }

    private static void due(String call, long got, long want) {
        check.due(call, got, want);
    }

    private static void due(String call, boolean got, boolean want) {
        check.due(call, got, want);
    }

    // ---- terms, part I

    private static void statements() {
        check.sentence("A PARISH is a text: { STATEMENT ; }");
        check.good("", 0);
        check.good("dies 1;", 1);
        check.good("dies 1;harm 1;", 2);
        check.bad(1, "dies 1^");
        check.bad(1, "^;");
        check.bad(1, "dies 1;^;");
        check.bad(1, "dies 1 ^harm 1;");
    }

    private static void graves() {
        check.sentence("grave NAME long N deep N due N (1 .. 9 feet; 0 .. 9 feet; 1 .. 30 MONTHS; 6 GRAVES)");
        OpenGraves least = check.good("grave g long 1 deep 0 due 1;", 1);
        due("long 1", least.grave(0, 0), 1);
        due("deep 0", least.grave(0, 1), 0);
        due("due 1", least.grave(0, 2), 1);
        OpenGraves most = check.good("grave g long 9 deep 9 due 30;", 1);
        due("long 9", most.grave(0, 0), 9);
        due("deep 9", most.grave(0, 1), 9);
        due("due 30", most.grave(0, 2), 30);
        check.bad(2, "grave g long ^0 deep 1 due 1;");
        check.bad(2, "grave g long ^10 deep 1 due 1;");
        check.bad(1, "grave g long 1 deep ^-1 due 1;");
        check.bad(2, "grave g long 1 deep ^10 due 1;");
        check.bad(2, "grave g long 1 deep 1 due ^0;");
        check.bad(2, "grave g long 1 deep 1 due ^31;");
        StringBuilder six = new StringBuilder();
        for (int g = 0; g < 6; g++) {
            six.append("grave ").append((char) ('a' + g)).append(" long ").append(g + 1).append(" deep 6 due 1;");
        }
        OpenGraves full = check.good(six.toString(), 6);
        due("graves", full.has(0), 6);
        due("the sixth", full.grave(5, 0), 6);
        due("there is no seventh", full.grave(6, 0), NONE);
        check.bad(5, six + "^grave g long 1 deep 6 due 1;");
    }

    private static void people() {
        check.sentence("person NAME tall N age N will N (1 .. 9 feet; 0 .. 99; 0 .. 9; 8 PEOPLE)");
        OpenGraves least = check.good("person p tall 1 age 0 will 0;", 1);
        due("tall 1", least.person(0, 0), 1);
        due("age 0", least.person(0, 1), 0);
        due("will 0", least.person(0, 2), 0);
        OpenGraves most = check.good("person p tall 9 age 99 will 9;", 1);
        due("tall 9", most.person(0, 0), 9);
        due("age 99", most.person(0, 1), 99);
        due("will 9", most.person(0, 2), 9);
        check.bad(2, "person p tall ^0 age 1 will 1;");
        check.bad(2, "person p tall ^10 age 1 will 1;");
        check.bad(1, "person p tall 1 age ^-1 will 1;");
        check.bad(2, "person p tall 1 age ^100 will 1;");
        check.bad(1, "person p tall 1 age 1 will ^-1;");
        check.bad(2, "person p tall 1 age 1 will ^10;");
        StringBuilder eight = new StringBuilder();
        for (int p = 0; p < 8; p++) {
            eight.append("person ").append((char) ('a' + p)).append(" tall ").append(p + 1).append(" age 1 will 1;");
        }
        OpenGraves full = check.good(eight.toString(), 8);
        due("people", full.has(1), 8);
        due("the eighth", full.person(7, 0), 8);
        due("there is no ninth", full.person(8, 0), NONE);
        check.bad(5, eight + "^person i tall 1 age 1 will 1;");
    }

    private static void rulesOneEach() {
        check.sentence("dies SUM, comes TEST, takes SUM, heart SUM, harm SUM (one each)");
        OpenGraves x = check.good("harm 5;heart 6;takes 7;comes all;dies 8;" + PERSON, 6);
        due("dies", x.counts(0, 0), 8);
        due("takes", x.counts(0, 1), 7);
        due("harm", x.counts(0, 2), 5);
        due("comes", x.persuade(0), 5);
        x.months(1);
        due("heart", x.person(0, 2), 6);
        check.bad(1, "dies ^all;");
        check.bad(1, "comes 1^;");
        check.bad(1, "takes 1^<2;");
    }

    /** What the sum tells of a person: tall 3, age 44, will 2. */
    private static void value(String sum, long want) {
        OpenGraves x = check.good("person p tall 3 age 44 will 2;takes " + sum + ";", 2);
        due("takes " + sum, x.counts(0, 1), want);
    }

    private static void holds(String test, boolean want) {
        OpenGraves x = check.good("person p tall 3 age 44 will 2;comes " + test + ";", 2);
        due("comes " + test, x.persuade(0) == 2, want);
    }

    private static void partsOfSums() {
        check.sentence("PART: N (1 to 4 digits)");
        value("0", 0);
        value("9999", 9999);
        value("0000", 0);
        value("0009", 9);
        check.bad(1, "takes 1000^0;");
        check.bad(1, "takes 0000^9;");
        check.bad(1, "takes 1+9999^9;");
        check.sentence("in comes: asked; in heart: taken.");
        check.good("comes asked=0;heart taken;", 2);
        check.bad(1, "comes ^taken=0;");
        check.bad(1, "comes 1=^taken;");
        check.bad(1, "heart ^asked;");
        for (String rule : new String[] {"dies", "takes", "harm"}) {
            check.bad(1, rule + " ^asked;");
            check.bad(1, rule + " ^taken;");
        }
        for (String rule : new String[] {"dies", "takes", "heart", "harm", "comes 1="}) {
            check.bad(1, rule + " ^number;");
            check.bad(1, rule + " ^alive;");
            check.bad(1, rule + " ^fits 0;");
            check.bad(1, rule + " ^due 0;");
        }
        check.sentence("(Of a PERSON how old, how tall, how willing he is; the MONTH; how many GRAVES ASK then; how many were TAKEN in this MONTH.)");
        // nobody was taken in a month in which none is; none asks where there are no graves
        OpenGraves none = check.good("heart taken;comes asked>0;" + PERSON, 3);
        due("by no will when none asks", none.persuade(0), NONE);
        none.months(1);
        due("nobody was taken", none.person(0, 2), 0);
        // who came was not taken
        OpenGraves came = check.good("grave g long 5 deep 6 due 1;heart taken;person p tall 5 age 1 will 9;"
                + "person q tall 5 age 1 will 5;", 4);
        came.months(1);
        due("p came", came.kept(0, 3), 0);
        due("nobody was taken, though p came", came.person(1, 2), 0);
        // a number 0 is 0, whatever asks or was taken
        OpenGraves zero = check.good("grave g long 5 deep 6 due 1;heart 0;comes will=0 and asked=1;person p tall 5 age 1 will 0;"
                + "person q tall 5 age 1 will 1;", 5);
        due("by will 0, as one asks", zero.persuade(0), 0);
        due("by no will above 0", zero.persuade(1), NONE);
        zero.talk(0, 5);
        due("one is taken", zero.months(1), 1);
        due("a heart of 0, though one was taken", zero.person(1, 2), 0);
    }

    private static void comparisons() {
        check.sentence("SUM SIGN SUM, SIGN < or > or = .");
        holds("1<2", true);
        holds("2<2", false);
        holds("3<2", false);
        holds("2>1", true);
        holds("2>2", false);
        holds("2>3", false);
        holds("2=2", true);
        holds("2=3", false);
        holds("not 1<2", false);
        holds("not 2<2", true);
        holds("not 2>1", false);
        holds("not 2>2", true);
        holds("not 2=2", false);
        holds("not 2=3", true);
        holds("9999*9999=9999*9998", true);
        holds("0-9999*9999<0-9999*99", true);
    }

    private static void fromTheLeft() {
        check.sentence("All from the left on");
        value("7-2-1", 4);
        value("100/7/2", 7);
        value("8/4*2", 4);
        value("9-4+3", 8);
        value("2+3*4-6/2", 11);
        holds("all or all and not all", true);
        holds("not all and not all or all", true);
        holds("not all and [not all or all]", false);
    }

    private static void division() {
        check.sentence("/ gives the greatest whole number not above, by 0 it gives 0");
        value("1/9999", 0);
        value("(0-1)/9999", -1);
        value("1/(0-9999)", -1);
        value("(0-1)/(0-9999)", 0);
        value("6/3", 2);
        value("(0-6)/3", -2);
        value("(0-7)/3", -3);
        value("7/(0-3)", -3);
        value("(0-7)/(0-3)", 2);
        value("0/5", 0);
        value("5/0", 0);
        value("0/0", 0);
        value("(0-5)/0", 0);
        value("5/(tall-3)", 0);
        value("7+5/0*3", 7);
        value("1000*1000/(0-1)", -1000000);
        value("(0-1000*1000)/(0-1)", 1000000);
    }

    private static void million() {
        check.sentence("each sum, difference, product above 10 to the 6 is that, below -10 to the 6 likewise");
        value("1000*1000", 1000000);
        value("1000*1000-1", 999999);
        value("1000*1000+1", 1000000);
        value("1000*1000+1-1", 999999);
        value("1001*1000", 1000000);
        value("1001*1000-1", 999999);
        value("0-1000*1000", -1000000);
        value("0-1000*1000+1", -999999);
        value("0-1000*1000-1", -1000000);
        value("0-1000*1000-1+1", -999999);
        value("(0-1001)*1000", -1000000);
        value("1000*1000-(0-1)", 1000000);
        value("0-1000*1000+(0-1)", -1000000);
        // products that a number of 32 bits does not hold
        value("(1000*1000)*(1000*1000)", 1000000);
        value("(0-1000*1000)*(1000*1000)", -1000000);
        value("(0-1000*1000)*(0-1000*1000)", 1000000);
        value("2148*1000*1000", 1000000);
        value("min(1000*1000+5,9999*9999)-max(0-9999*9999,0-9999*9998)", 1000000);
    }

    private static void withoutRules() {
        check.sentence("Without: dies is age/10, comes is will>8, takes is age, heart is will, harm is 9-will.");
        OpenGraves x = check.good("grave g long 1 deep 6 due 30;grave h long 2 deep 6 due 9;person p tall 3 age 9 will 0;"
                + "person q tall 3 age 10 will 8;person r tall 2 age 99 will 9;person s tall 2 age 99 will 8;", 6);
        long[][] want = {{0, 9, 9}, {1, 10, 1}, {9, 99, 0}, {9, 99, 1}};
        for (int p = 0; p < 4; p++) {
            for (int what = 0; what < 3; what++) {
                due("counts(" + p + ", " + what + ")", x.counts(p, what), want[p][what]);
            }
        }
        due("8 is not above 8", x.persuade(1), 9);
        due("9 is above 8", x.persuade(2), 9);
        x.months(1);
        due("one of will 9 comes", x.person(2, 3), 0);
        due("one of will 8 does not", x.person(3, 3), 1);
        due("a heart of 0 stays", x.person(0, 2), 0);
        due("a heart of 8 stays", x.person(1, 2), 8);
        // a rule that is there is not joined with the usual one
        OpenGraves ruled = check.good("dies 3;" + PERSON, 2);
        due("dies as told", ruled.counts(0, 0), 3);
        due("takes as usual", ruled.counts(0, 1), 50);
    }

    private static void names() {
        check.sentence("NAMES: 1 to 6 letters, no OWN WORD, unlike ones (of both sorts).");
        OpenGraves x = check.good("grave a long 1 deep 1 due 1;person zyxwvu tall 1 age 1 will 1;", 2);
        due("a", x.letter(0, 0, 0), 1);
        due("behind a", x.letter(0, 0, 1), 0);
        due("z", x.letter(1, 0, 0), 26);
        due("u", x.letter(1, 0, 5), 21);
        check.bad(1, "grave ^;");
        check.bad(1, "person ^1 tall 1 age 1 will 1;");
        check.bad(1, "person abcdef^g tall 1 age 1 will 1;");
        check.good("grave ab long 1 deep 1 due 1;grave abc long 1 deep 1 due 1;grave b long 1 deep 1 due 1;"
                + "grave bb long 1 deep 1 due 1;grave abcdef long 1 deep 1 due 1;grave abcdeg long 1 deep 1 due 1;"
                + "person a tall 1 age 1 will 1;person aa tall 1 age 1 will 1;person ba tall 1 age 1 will 1;", 9);
        check.sentence("OWN WORDS: grave, long, deep, due, person, tall, age, will, dies, comes, takes, heart, harm, month, asked, taken, number, alive, fits, or, and, not, all, min, max.");
        due("own words", OWN_WORDS.length, 25);
        for (String word : OWN_WORDS) {
            check.bad(1, "grave ^" + word + " long 1 deep 1 due 1;");
            check.bad(1, "person ^" + word + " tall 1 age 1 will 1;");
        }
        for (String word : new String[] {"first", "last", "often", "total", "most", "least", "graves", "al", "ora", "mi"}) {
            check.good("grave " + word + " long 1 deep 1 due 1;", 1);
            check.good("person " + word + " tall 1 age 1 will 1;", 1);
        }
    }

    private static void blanks() {
        check.sentence("Blanks (10, 32) are where one likes (words and numbers side by side need one).");
        check.good("grave g long 1 deep 1 due 1;comes[1<2]and not(1)=1;harm min(1,2)*3/(4)-age;", 3);
        check.good(" \n grave\n\ng  long\n1 deep \n1 due 1 ;\n comes\n[ 1 < 2 ] and not ( 1 ) = 1\n;harm min ( 1 , 2 ) \n;\n \n", 3);
        for (int sign : new int[] {0, 9, 11, 13, 31, 33, 95, 127, 128, 160, 255}) {
            check.bad(1, "^" + (char) sign + "dies 1;");
            check.bad(1, "dies^" + (char) sign + "1;");
            check.bad(1, "dies 1;^" + (char) sign);
        }
        check.bad(1, "grave g long^5 deep 6 due 3;");
        check.bad(1, "grave g long 5^deep 6 due 3;");
        check.bad(1, "grave g long 5 deep 6^due 3;");
        check.bad(1, "dies^1;");
        check.bad(1, "comes 1=2^or all;");
        check.bad(1, "comes all or^1=2;");
        check.bad(1, "^gravel long 5 deep 6 due 3;");
        // the numbers of + and ; are none of these signs
        check.bad(1, "harm age^43 1;");
        check.bad(1, "harm age^59");
        check.bad(1, "harm age ^59");
        check.bad(1, "grave glong ^5 deep 6 due 3;");
    }

    private static void faultOne() {
        check.sentence("1 the first byte with which no such text goes on");
        check.bad(1, "^#");
        check.bad(1, "^Grave g long 1 deep 1 due 1;");
        check.bad(1, "grave ^G long 1 deep 1 due 1;");
        check.bad(1, "grave g^_ long 1 deep 1 due 1;");
        check.bad(1, "grave g^{ long 1 deep 1 due 1;");
        check.bad(1, "grave g^` long 1 deep 1 due 1;");
        check.bad(1, "grave g long ^/ deep 1 due 1;");
        check.bad(1, "grave g long ^: deep 1 due 1;");
        check.bad(1, "grave g ^deep 1 long 1 due 1;");
        check.bad(1, "person p ^age 1 tall 1 will 1;");
        check.bad(1, "grave g long 1 deep 1 due 1^,");
        check.bad(1, "harm 1+^;");
        check.bad(1, "harm ^+1;");
        check.bad(1, "harm (^);");
        check.bad(1, "harm (1^;");
        check.bad(1, "harm 1^);");
        check.bad(1, "harm min^;");
        check.bad(1, "harm min(1^);");
        check.bad(1, "harm min(1,2^,3);");
        check.bad(1, "harm (1^,2);");
        check.bad(1, "comes ^;");
        check.bad(1, "comes [^];");
        check.bad(1, "comes [all^;");
        check.bad(1, "comes all^];");
        check.bad(1, "comes (1^<2);");
        check.bad(1, "comes 1<2^<3;");
        check.bad(1, "comes 1<^=2;");
        check.bad(1, "comes not^;");
        check.bad(1, "comes all and^;");
        check.bad(1, "comes 1+^[1]=2;");
        check.sentence("(words and numbers whole, at their first byte;");
        check.bad(1, "^graveg");
        check.bad(1, "^gra");
        check.bad(1, "^persons p tall 1 age 1 will 1;");
        check.bad(1, "grave g ^longer 1 deep 1 due 1;");
        check.bad(1, "grave g ^lon");
        check.bad(1, "grave ^12345 long 1 deep 1 due 1;");
        check.bad(1, "grave g ^12345 long 1 deep 1 due 1;");
        check.bad(1, "grave g long 1 ^23456 deep 1 due 1;");
        check.bad(1, "harm ^ages;");
        check.bad(1, "harm ^agewilltall;");
        check.bad(1, "harm 1 ^23456;");
        check.bad(1, "comes all ^ore all;");
        check.bad(1, "^12345");
    }

    private static void faultOneAtItself() {
        check.sentence("where a NAME is asked, an OWN WORD so, a 7th letter at itself;");
        check.bad(1, "grave ^long long 1 deep 1 due 1;");
        check.bad(1, "grave abcdef^g long 1 deep 1 due 1;");
        check.bad(1, "person abcdef^ghijklmnop tall 1 age 1 will 1;");
        check.bad(1, "grave person^s long 1 deep 1 due 1;");
        check.bad(1, "grave abcdef^g");
        // six letters that are there already, and one more: no NAME that is there
        check.bad(1, "grave abcdef long 1 deep 1 due 1;person abcdef^g tall 1 age 1 will 1;");
        check.sentence("where a number is asked, a 5th digit at itself;");
        check.bad(1, "grave g long 0000^1 deep 1 due 1;");
        check.bad(1, "grave g long 1 deep 0000^000 due 1;");
        check.bad(1, "grave g long 1 deep 1 due 0001^0;");
        check.bad(1, "person p tall 0000^1 age 1 will 1;");
        check.bad(1, "person p tall 1 age 0000^1 will 1;");
        check.bad(1, "person p tall 1 age 1 will 0000^1;");
        check.bad(1, "harm 1234^5;");
        check.bad(1, "harm (1234^567890123456789);");
        check.bad(1, "comes 1<1234^5;");
        check.bad(1, "harm 1234^5age;");
    }

    private static void endsTooSoon() {
        check.sentence("at the text's length, if it ends too soon");
        for (String cut : new String[] {"grave", "grave g", "grave g long", "grave g long 1", "grave g long 1 deep",
            "grave g long 1 deep 1", "grave g long 1 deep 1 due", "grave g long 1 deep 1 due 1", "person", "person p",
            "person p tall", "person p tall 1", "person p tall 1 age", "person p tall 1 age 1", "person p tall 1 age 1 will",
            "person p tall 1 age 1 will 1", "dies", "dies 1", "dies 1+", "dies 1*", "dies (", "dies (1", "dies min",
            "dies min(", "dies min(1", "dies min(1,", "dies min(1,2", "comes", "comes not", "comes [", "comes [all",
            "comes 1", "comes 1<", "comes 1<2", "comes all", "comes all or", "comes all and", "comes all or not",
            "dies 1;harm"}) {
            check.bad(1, cut + "^");
            check.bad(1, cut + " \n ^");
        }
    }

    private static void faultsTwoAndThree() {
        check.sentence("2 a number that can't be, at it");
        check.bad(2, "grave g long ^0");
        check.bad(2, "grave g long ^0000 deep 1 due 1;");
        check.bad(2, "grave g long ^0010 deep 1 due 1;");
        check.bad(2, "grave g long ^9999 deep 1 due 1;");
        check.bad(2, "grave g long 1 deep 1 due ^0031;");
        check.bad(2, "person p tall 1 age ^0100 will 1;");
        check.good("grave g long 0001 deep 0009 due 0030;person p tall 09 age 099 will 009;", 2);
        check.sentence("3 a NAME that is there already, at it");
        check.bad(3, GRAVE + "grave ^g long 1 deep 1 due 1;");
        check.bad(3, GRAVE + "person ^g tall 1 age 1 will 1;");
        check.bad(3, PERSON + "person ^p tall 1 age 1 will 1;");
        check.bad(3, PERSON + "grave ^p long 1 deep 1 due 1;");
        check.bad(3, GRAVE + PERSON + "person ^g");
        check.bad(3, "grave abcdef long 1 deep 1 due 1;" + PERSON + "person ^abcdef");
        check.bad(3, "person a tall 1 age 1 will 1;person b tall 1 age 1 will 1;person ^a tall 1 age 1 will 1;");
        StringBuilder almost = new StringBuilder();
        for (int k = 0; k < 12; k++) {
            almost.append(k < 5 ? "grave " : "person ").append((char) ('a' + k));
            almost.append(k < 5 ? " long 1 deep 1 due 1;" : " tall 1 age 1 will 1;");
        }
        check.good(almost + "grave m long 1 deep 1 due 1;person n tall 1 age 1 will 1;", 14);
        for (int k = 0; k < 12; k++) {
            check.bad(3, almost + "grave ^" + (char) ('a' + k) + " long 1 deep 1 due 1;");
            check.bad(3, almost + "person ^" + (char) ('a' + k) + " tall 1 age 1 will 1;");
        }
    }

    private static void faultFour() {
        check.sentence("4 the 7th of ( [ not that is open at once (not until its FACT ends), at it");
        check.good("harm ((((((1))))));", 1);
        check.bad(4, "harm ((((((^(1)))))));");
        check.good("comes [[[[[[all]]]]]];", 1);
        check.bad(4, "comes [[[[[[^[all]]]]]]];");
        check.good("comes not not not not not not all;", 1);
        check.bad(4, "comes not not not not not not ^not all;");
        // of all three together, and of the ( of min and max
        check.good("comes not[not[not(1)=1]];", 1);
        check.bad(4, "comes not[not[not(^(1))=1]];");
        check.bad(4, "comes [[[[(min(max^(1,2),3))=1]]]];");
        check.good("comes [[[(min(max(1,2),3))=1]]];", 1);
        check.good("harm max(max(max(max(max(max(1,2),3),4),5),6),7);", 1);
        check.bad(4, "harm max(max(max(max(max(max(min^(1,2),2),3),4),5),6),7);");
        check.bad(4, "harm max(1,max(1,max(1,max(1,max(1,max(1,^(1)))))));");
        // what has been closed is not open any more
        check.good("harm ((((((1))))))+((((((1))))));", 1);
        check.good("harm (((((1)))+1)*(((1))))-((((((1))))));", 1);
        check.good("harm min((((((1))))),(((((1))))));", 1);
        check.good("comes [[[[[[all]]]]]] and [[[[[[all]]]]]];", 1);
        // a not is open no longer than its FACT
        check.good("comes not not not not not not all and not not not not not not all or not all;", 1);
        check.good("comes [[[[[not all and not all or not all]]]]];", 1);
        check.good("comes not not not not not (1)=(1) and ((((((1))))))=1;", 1);
        check.bad(4, "comes not not not not not not ^(1)=1;");
        check.bad(4, "comes not not not not not not 1=^(1);");
        check.bad(4, "comes not not not not not not ^[all];");
        check.bad(4, "comes [[[[[[^not all]]]]]];");
        // where it can't stand at all, the 7th is fault 1
        check.bad(1, "harm ((((((^[1]))))));");
        check.bad(1, "harm ((((((^not 1))))));");
        check.bad(4, "comes [[[[[[^[");
    }

    private static void faultFive() {
        check.sentence("5 one too many of a kind (a second dies, comes, takes, heart, harm, too), at its first byte");
        for (String rule : new String[] {"dies 1;", "comes all;", "takes 1;", "heart 1;", "harm 1;"}) {
            check.bad(5, rule + "^" + rule);
            check.bad(5, rule + GRAVE + " \n ^" + rule);
            check.bad(5, rule + "^" + rule.substring(0, rule.indexOf(' ')));
        }
        StringBuilder full = new StringBuilder();
        for (int g = 0; g < 6; g++) {
            full.append("grave ").append((char) ('a' + g)).append(" long 1 deep 6 due 1;");
        }
        for (int p = 0; p < 8; p++) {
            full.append("person ").append((char) ('g' + p)).append(" tall 1 age 1 will 1;");
        }
        check.good(full + "dies 1;comes all;takes 1;heart 1;harm 1;", 19);
        check.bad(5, full + "^grave a");
        check.bad(5, full + "^person a");
        check.bad(5, full + "^grave");
        check.bad(1, full + "^graves");
        check.bad(1, full + "^grav");
    }

    private static void firstAlongTheText() {
        check.sentence("FAULTS, the first along the text");
        check.bad(2, "grave g long ^0 deep 99 due 99;x");
        check.bad(2, "grave g long ^0deep");
        check.bad(1, "grave ^due long 0 deep 0 due 0;");
        check.bad(3, GRAVE + "grave ^g long 0;");
        check.bad(5, "dies 1;^dies ((((((((1");
        check.bad(4, "dies ((((((^(((;dies 1;");
        check.bad(1, "^x dies 1;dies 1;");
        check.bad(2, "person p tall 1 age ^999 wall 1;");
        check.bad(1, "person p tall 1 age 99 ^wall 99;");
    }

    // ---- promises 1 to 7

    private static void newObject() {
        check.sentence("No graves, nobody.");
        OpenGraves x = new OpenGraves();
        due("graves", x.has(0), 0);
        due("people", x.has(1), 0);
        due("grave 0", x.grave(0, 0), NONE);
        due("person 0", x.person(0, 0), NONE);
        due("next(0)", x.next(0), NONE);
        due("later(0, 0)", x.later(0, 0), NONE);
        due("filled(0)", x.filled(0), NONE);
        due("taken(60)", x.taken(60), 0);
        due("row(0)", x.row(0), 0);
        due("row(1)", x.row(1), 0);
        due("row(2)", x.row(2), NONE);
        due("persuade(0)", x.persuade(0), NONE);
        due("enemy(1, NONE)", x.enemy(1, NONE), NONE);
        due("odds(0)", x.odds(0), OpenGraves.NOTHING);
        due("wills(0)", x.wills(0), NONE);
        due("tells(0, 0)", x.tells(0, 0), NONE);
        due("dig(0)", x.dig(0), NONE);
        due("fill(0, 0)", x.fill(0, 0), false);
        due("talk(0, 0)", x.talk(0, 0), false);
        due("months(100)", x.months(100), 0);
        due("chance(100)", x.chance(100), 0);
        due("the months are acts", x.has(8), 2);
        due("image()", x.image(), 3);
    }

    private static void feed() {
        check.sentence("Twenty bytes come behind those on the tape, of each number the highest first: how many there are;");
        OpenGraves x = check.good(PERSON, 1);
        due("feed on an empty tape", x.feed(0x746f7461, 0x6c203132, 0x33343520, 0x20202020, 0x20202020), 20);
        due("ask() of <total 12345>", x.ask(), OpenGraves.NOTHING);
        due("its place", x.fault(1), 10);
        // bytes above 127 are none below 0: the image of a grave in which nobody is has a byte 255
        OpenGraves y = check.good("grave g long 5 deep 6 due 3;", 1);
        int[] image = Check.sealed(0, 0, 9, 30, 255);
        due("feed of bytes up to 255", y.feed(0x0000091e, 0xff000000 | image[5] << 16, -1, -1, -1), 20);
        y.end(6);
        due("on() of them", y.on(), true);
        due("nobody is in it", y.grave(0, 3), NONE);
        check.sentence("NONE, refused (0), if there would be more than 1600.");
        OpenGraves z = new OpenGraves();
        for (int n = 1; n <= 80; n++) {
            due("feed number " + n, z.feed(n, n, n, n, n), 20 * n);
        }
        due("nothing is refused up to 1600", z.status(0), 0);
        due("feed number 81", z.feed(0, 0, 0, 0, 0), NONE);
        due("refused", z.status(0), 1);
        due("the tape stays at 1600", z.end(1600), true);
        z.end(1581);
        due("from 1581 there would be 1601", z.feed(0, 0, 0, 0, 0), NONE);
        due("refused again", z.status(0), 2);
        due("the tape stays at 1581", z.end(1582), false);
        z.end(1580);
        due("from 1580 there are 1600", z.feed(0, 0, 0, 0, 0), 1600);
    }

    private static void end() {
        check.sentence("The tape has its first n bytes alone: true; false, refused (0), if it has not so many, or n is below 0.");
        OpenGraves x = new OpenGraves();
        due("end(0) of an empty tape", x.end(0), true);
        due("end(1) of an empty tape", x.end(1), false);
        due("end(-1) of an empty tape", x.end(-1), false);
        due("refused", x.status(0), 2);
        x.feed(0x64696573, 0x20313b3b, 0, 0, 0);
        due("end(20) of twenty", x.end(20), true);
        due("end(21) of twenty", x.end(21), false);
        for (int far : FAR) {
            due("end(" + far + ")", x.end(far), false);
        }
        due("refused", x.status(0), 6);
        due("the tape stays", x.end(20), true);
        due("end(7)", x.end(7), true);
        due("what was behind is gone", x.end(8), false);
        due("parish() of the first seven: <dies 1;>", x.parish(), 1);
        x.feed(1, 2, 3, 4, 5);
        due("end(0)", x.end(0), true);
        due("nothing is left", x.end(1), false);
    }

    private static void parishCounts() {
        check.sentence("The tape (it goes) is THE PARISH: how many STATEMENTS (0 without);");
        OpenGraves x = new OpenGraves();
        due("of a tape on which nothing ever was", x.parish(), 0);
        due("that is no fault", x.fault(0), 0);
        Check.put(x, " \n\n ");
        due("of blanks", x.parish(), 0);
        due("the tape has gone", x.end(1), false);
        Check.put(x, GRAVE + PERSON);
        due("of two", x.parish(), 2);
        due("the tape has gone", x.end(1), false);
        due("of the tape that has gone", x.parish(), 0);
        due("no grave is left", x.has(0), 0);
        due("nobody is left", x.has(1), 0);
    }

    private static void parishRefused() {
        check.sentence("NONE, refused (1), with a FAULT (all stays).");
        OpenGraves x = check.good("grave gate long 5 deep 6 due 3;grave yew long 5 deep 6 due 9;person abe tall 5 age 50 will 5;"
                + "person bee tall 5 age 60 will 9;dies 7;comes will>8;takes 70;heart will+1;harm 71;", 9);
        x.months(1);
        x.dig(1);
        Check.sees(x, 0, 0, 0);
        String before = Check.state(x);
        int refused = 0;
        for (String wrong : new String[] {"x", "grave zz long 9 deep 9 due 9", "dies 1;comes not all;takes 1;heart 1;harm 1;;",
            "grave zz long 9 deep 9 due 9;person yy tall 9 age 9 will 9;harm 1;harm 2;"}) {
            Check.put(x, wrong);
            due("parish() of <" + wrong + ">", x.parish(), NONE);
            refused++;
            due("refused", x.status(1), refused);
            due("the tape has gone", x.end(1), false);
        }
        due("all stays", before.equals(Check.state(x)), true);
        due("names stay", x.letter(0, 0, 0), 7);
        due("names of people stay", x.letter(1, 0, 2), 5);
        due("dies stays", x.counts(0, 0), 7);
        due("takes stays", x.counts(0, 1), 70);
        due("harm stays", x.counts(0, 2), 71);
        due("comes stays", x.persuade(0), 9);
        x.months(1);
        due("heart stays", x.person(0, 2), 7);
        due("undo stays", x.undo() && x.undo() && x.undo() && !x.undo(), true);
    }

    private static void parishAsAtFirst() {
        check.sentence("Without one all is as at first, nothing is KEPT, SEEN or can be undone; the seed stays.");
        OpenGraves x = check.good(GRAVE + PERSON + "person q tall 5 age 60 will 9;heart 1;dies 5;", 5);
        x.seed(42);
        x.months(2);
        x.dig(0);
        Check.sees(x, 0, 0, 0, 1, 0, 1);
        due("kept ahead of it", x.has(6), 1);
        due("seen ahead of it", x.has(7), 2);
        Check.put(x, GRAVE + PERSON + "dies 1;");
        due("parish()", x.parish(), 3);
        due("as a new one", Check.state(x).equals(Check.state(check.good(GRAVE + PERSON, 2))), true);
        due("undo()", x.undo(), false);
        due("kept", x.kept(0, 0), NONE);
        // of seed 42: (1103515245 * 42 + 12345) mod 2^31 = 1250496027, / 64 = 19539000, mod 100 = 0
        due("0, by the seed that stayed, is below 1", x.chance(1), 1);
    }

    /** A parish owes nothing to those that were told or refused ahead of it. */
    private static void parishBehindOthers() {
        check.sentence("Without one all is as at first,");
        String full = GRAVE + "grave h long 6 deep 7 due 4;" + PERSON + "person q tall 6 age 60 will 6;"
                + "dies 1;comes all;takes 2;heart 3;harm 4;";
        String[] wrong = {"grave g long 1 deep 1 due 1;person p tall 1 age 1 will 1;dies 9;comes not all;takes 9;heart 9;harm 9;x",
            full + "grave g", "person g tall 1 age 1 will 1;grave p long 1 deep 1 due 1;harm 1;harm 2;"};
        OpenGraves x = new OpenGraves();
        for (int turn = 0; turn < 3; turn++) {
            Check.put(x, wrong[turn]);
            due("parish() of <" + wrong[turn] + ">", x.parish(), NONE);
            Check.put(x, full);
            due("the full one, " + turn, x.parish(), 9);
            due("graves", x.has(0), 2);
            due("people", x.has(1), 2);
            due("dies", x.counts(0, 0), 1);
            Check.put(x, PERSON + GRAVE);
            due("one of each, " + turn, x.parish(), 2);
            due("graves", x.has(0), 1);
            due("people", x.has(1), 1);
            due("its name", x.letter(0, 0, 0), 7);
            due("usual dies", x.counts(0, 0), 5);
            due("usual takes", x.counts(0, 1), 50);
            due("usual harm", x.counts(0, 2), 4);
            due("usual comes", x.persuade(0), 9);
            x.months(1);
            due("usual heart", x.person(0, 2), 5);
        }
        Check.put(x, "");
        due("the empty one", x.parish(), 0);
        due("graves", x.has(0), 0);
        due("people", x.has(1), 0);
    }

    private static void parishOfSixteenHundred() {
        check.sentence("if there would be more than 1600.");
        StringBuilder ones = new StringBuilder("takes 1");
        while (ones.length() < 1599) {
            ones.append("+1");
        }
        ones.append(';');
        due("bytes", ones.length(), 1600);
        OpenGraves x = check.good(ones.toString(), 1);
        Check.put(x, ones.toString());
        due("again", x.parish(), 1);
        Check.put(x, PERSON + ones.substring(0, 1600 - PERSON.length() - 1) + ";");
        due("a person and a sum up to the last byte", x.parish(), 2);
        // 1600 bytes less 30 of the person, 6 ahead of the sum, 1 behind it: 1563, which are 782 ones, 781 signs
        due("its sum", x.counts(0, 1), 782);
        String blanks = " ".repeat(1594);
        check.bad(1, "dies 1" + blanks + "^");
        check.good("dies 1" + blanks.substring(1) + ";", 1);
        StringBuilder empty = new StringBuilder();
        while (empty.length() < 1592) {
            empty.append("comes all or ".substring(empty.length() == 0 ? 0 : 6));
        }
        empty.append("all");
        check.good(empty + ";", 1);
        check.bad(1, empty + "^");
    }

    private static void fault() {
        check.sentence("its FAULT (what 0; 0 without, and ahead of any), its place (1; NONE without). NONE for another what.");
        OpenGraves x = new OpenGraves();
        due("fault(0) ahead of any", x.fault(0), 0);
        due("fault(1) ahead of any", x.fault(1), NONE);
        Check.put(x, "dies 1;dies 1;");
        x.parish();
        due("fault(0)", x.fault(0), 5);
        due("fault(1)", x.fault(1), 7);
        for (int what : new int[] {-1, 2, Integer.MIN_VALUE, Integer.MAX_VALUE}) {
            due("fault(" + what + ")", x.fault(what), NONE);
        }
        due("ask() without a fault", Check.ask(x, "total 1"), 0);
        due("fault(0) of the ask() that was the latest", x.fault(0), 0);
        due("fault(1) of it", x.fault(1), NONE);
        Check.ask(x, "#");
        due("fault(0) of a question", x.fault(0), 1);
        due("a place 0", x.fault(1), 0);
        Check.put(x, "");
        x.see();
        x.on();
        due("see() and on() have none", x.fault(0), 1);
        x.parish();
        due("fault(0) of an empty parish", x.fault(0), 0);
        due("fault(1) of an empty parish", x.fault(1), NONE);
    }

    private static void has() {
        check.sentence("8 ACTS that can be undone. NONE for others.");
        OpenGraves x = new OpenGraves();
        for (int what = 0; what <= 8; what++) {
            due("has(" + what + ")", x.has(what), 0);
        }
        for (int what : new int[] {-1, 9, Integer.MIN_VALUE, Integer.MAX_VALUE}) {
            due("has(" + what + ")", x.has(what), NONE);
        }
    }

    private static void letter() {
        check.sentence("Letter k (0 .. 5) of the NAME of a GRAVE (kind 0), a PERSON (1): 1 .. 26; 0 behind it; NONE when there is none such.");
        OpenGraves x = check.good("grave az long 1 deep 1 due 1;person abcdez tall 1 age 1 will 1;", 2);
        int[] az = {1, 26, 0, 0, 0, 0};
        int[] abcdez = {1, 2, 3, 4, 5, 26};
        for (int k = 0; k < 6; k++) {
            due("letter(0, 0, " + k + ")", x.letter(0, 0, k), az[k]);
            due("letter(1, 0, " + k + ")", x.letter(1, 0, k), abcdez[k]);
        }
        for (int wrong : new int[] {-1, 6, Integer.MIN_VALUE, Integer.MAX_VALUE}) {
            due("letter(0, 0, " + wrong + ")", x.letter(0, 0, wrong), NONE);
            due("letter(1, 0, " + wrong + ")", x.letter(1, 0, wrong), NONE);
            due("letter(" + wrong + ", 0, 0)", x.letter(wrong, 0, 0), NONE);
            due("letter(0, " + wrong + ", 0)", x.letter(0, wrong, 0), NONE);
            due("letter(1, " + wrong + ", 0)", x.letter(1, wrong, 0), NONE);
        }
        due("letter(0, 1, 0)", x.letter(0, 1, 0), NONE);
        due("letter(1, 1, 0)", x.letter(1, 1, 0), NONE);
        due("letter(2, 0, 0)", x.letter(2, 0, 0), NONE);
        StringBuilder full = new StringBuilder();
        for (int k = 0; k < 14; k++) {
            full.append(k < 6 ? "grave " : "person ").append((char) ('a' + k)).append("z");
            full.append(k < 6 ? " long 1 deep 1 due 1;" : " tall 1 age 1 will 1;");
        }
        OpenGraves y = check.good(full.toString(), 14);
        for (int k = 0; k < 14; k++) {
            due("first letter of " + k, y.letter(k < 6 ? 0 : 1, k < 6 ? k : k - 6, 0), k + 1);
            due("second letter of " + k, y.letter(k < 6 ? 0 : 1, k < 6 ? k : k - 6, 1), 26);
        }
        due("there is no seventh grave", y.letter(0, 6, 0), NONE);
        due("there is no ninth person", y.letter(1, 8, 0), NONE);
    }
}

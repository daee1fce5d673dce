/** Each promise of the document by answers worked out by hand: ordinary inputs, the edges, wrong inputs. */
public final class PromisesTest {
    private static final int NONE = OpenGraves.NONE;
    private static final long NOTHING = OpenGraves.NOTHING;
    private static final Check check = new Check();

    /** Three graves of which two ask, four people, all five rules. */
    private static final String VALE = "grave hedge long 6 deep 6 due 2; grave gate long 3 deep 7 due 1;"
            + "grave yew long 8 deep 5 due 4; person abe tall 5 age 71 will 4; person bee tall 3 age 8 will 9;"
            + "person cyd tall 7 age 40 will 2; person dan tall 6 age 55 will 6; dies age/10+1;"
            + "comes will>8 or asked>2; takes age-will*5; heart will+taken; harm 100-age;";
    /** One grave, two people, no rules. */
    private static final String PLAIN = "grave g long 5 deep 6 due 3;person p tall 5 age 50 will 5;"
            + "person q tall 6 age 60 will 6;";

    public static void main(String[] args) {
        newObject();
        feed();
        end();
        parish();
        fault();
        has();
        letter();
        grave();
        person();
        counts();
        next();
        kept();
        later();
        filled();
        taken();
        row();
        persuade();
        enemy();
        odds();
        see();
        wills();
        tells();
        dig();
        fill();
        talk();
        months();
        chance();
        undo();
        seed();
        ask();
        image();
        octet();
        on();
        status();
        check.close("PromisesTest");
    }

    private static void due(String call, long got, long want) {
        check.due(call, got, want);
    }

    private static void due(String call, boolean got, boolean want) {
        check.due(call, got, want);
    }

    /** Promise 1. */
    private static void newObject() {
        OpenGraves x = new OpenGraves();
        for (int what = 0; what <= 8; what++) {
            due("has(" + what + ") of a new object", x.has(what), 0);
        }
        for (int what = 0; what <= 5; what++) {
            due("status(" + what + ") of a new object", x.status(what), 0);
        }
        due("row(0) of a new object", x.row(0), 0);
        due("odds(NONE) of a new object", x.odds(NONE), 1);
        due("months(2) of a new object", x.months(2), 0);
        due("has(2) of a new object two months later", x.has(2), 2);
        due("end(0) of a new object", x.end(0), true);
        due("end(1) of a new object", x.end(1), false);
    }

    /** Promise 2. */
    private static void feed() {
        OpenGraves x = new OpenGraves();
        for (int n = 1; n <= 80; n++) {
            due("feed number " + n, x.feed(0, 0, 0, 0, 0), 20 * n);
        }
        due("feed beyond 1600", x.feed(0, 0, 0, 0, 0), NONE);
        due("status(0) behind it", x.status(0), 1);
        x.end(1581);
        due("feed from 1581 on", x.feed(0, 0, 0, 0, 0), NONE);
        x.end(1580);
        due("feed from 1580 on", x.feed(0, 0, 0, 0, 0), 1600);
        OpenGraves y = Check.told("grave a long 1 deep 1 due 1;");
        // total 8*9+7 in bytes, the highest of each number first
        y.feed(0x746f7461, 0x6c20382a, 0x392b3720, 0x20202020, 0x0a0a2020);
        due("ask() of what was fed", y.ask(), 0);
        due("its fault", y.fault(0), 0);
    }

    /** Promise 3. */
    private static void end() {
        OpenGraves x = new OpenGraves();
        x.feed(1, 2, 3, 4, 5);
        due("end(21)", x.end(21), false);
        due("end(-1)", x.end(-1), false);
        due("status(0)", x.status(0), 2);
        due("end(20)", x.end(20), true);
        due("end(7)", x.end(7), true);
        due("end(8) behind end(7)", x.end(8), false);
        due("feed behind end(7)", x.feed(0, 0, 0, 0, 0), 27);
        due("end(0)", x.end(0), true);
        due("parish() of nothing", x.parish(), 0);
    }

    /** Promise 4. */
    private static void parish() {
        OpenGraves x = new OpenGraves();
        Check.put(x, VALE);
        due("parish() of the vale", x.parish(), 12);
        due("the tape has gone", x.feed(0, 0, 0, 0, 0), 20);
        x.seed(77);
        x.talk(0, 5);
        x.fill(2, 2);
        x.months(3);
        Check.put(x, 0, 0, 0);
        x.see();
        Check.put(x, "grave g long 10");
        due("parish() with a fault", x.parish(), NONE);
        due("the tape has gone all the same", x.end(1), false);
        due("the month stays", x.has(2), 3);
        due("what is kept stays", x.has(6), 3);
        due("what is seen stays", x.has(7), 1);
        due("what can be undone stays", x.has(8), 3);
        due("graves stay", x.has(0), 3);
        due("status(1)", x.status(1), 1);
        Check.put(x, PLAIN);
        due("parish() of the plain one", x.parish(), 3);
        due("graves", x.has(0), 1);
        due("people", x.has(1), 2);
        due("month", x.has(2), 0);
        due("alive", x.has(3), 2);
        due("kept", x.has(6), 0);
        due("seen", x.has(7), 0);
        due("can be undone", x.has(8), 0);
        // the rules of the parish ahead are gone
        due("usual dies", x.counts(0, 0), 5);
        due("usual takes", x.counts(0, 1), 50);
        due("usual harm", x.counts(0, 2), 4);
        Check.put(x, "");
        due("parish() of an empty text", x.parish(), 0);
        due("graves of an empty text", x.has(0), 0);
        Check.put(x, " \n ");
        due("parish() of blanks", x.parish(), 0);
        Check.put(x, "dies 1;comes all;takes 1;heart 1;harm 1;");
        due("parish() of rules alone", x.parish(), 5);
        seedStaysOverParish();
        language();
    }

    private static void seedStaysOverParish() {
        // of seed 1 the first draw of 100 is 1103527590 / 64 mod 100 = 17242618 mod 100 = 18
        OpenGraves x = new OpenGraves();
        x.seed(2);
        Check.put(x, "person p tall 1 age 1 will 1;dies 44;");
        x.parish();
        // of seed 2: (2207030490 + 12345) mod 2^31 = 59559187; / 64 = 930612; mod 100 = 12
        due("dies by the seed that stayed", x.chance(1), 1);
        OpenGraves y = Check.told("person p tall 1 age 1 will 1;dies 18;");
        due("18 is not below 18", y.chance(1), 0);
        y = Check.told("person p tall 1 age 1 will 1;dies 19;");
        due("18 is below 19", y.chance(1), 1);
        y.undo();
        // the seed stays: the second draw is (1103515245 * 1103527590 + 12345) mod 2^31 = 377401575; / 64 mod 100 = 99
        due("the next draw is 99", y.chance(1), 0);
    }

    /** Values of the small language, as the harm, the takes and the coming of one person tell them. */
    private static void language() {
        value("7-2-1", 4);
        value("100/7/2", 7);
        value("2+3*4", 14);
        value("(2+3)*4", 20);
        value("0-7/2", -3);
        value("(0-7)/2", -4);
        value("7/(0-2)", -4);
        value("(0-8)/2", -4);
        value("7/0", 0);
        value("(0-7)/(tall-3)", 0);
        value("9999*9999", 1000000);
        value("0-9999*9999", -1000000);
        value("9999*9999+1-2", 999998);
        value("0-9999*9999-5+1", -999999);
        value("(0-9999)*9999*2", -1000000);
        value("9999*100+100", 1000000);
        value("9999*100+101", 1000000);
        value("9999*100+99", 999999);
        value("min(3,2)+max(4,5)*10", 52);
        value("min ( 2 , 3 ) - max(0-1,0-2)", 3);
        value("age", 44);
        value("tall*100+will", 302);
        value("month", 0);
        value("0012", 12);
        holds("1<2", true);
        holds("2<2", false);
        holds("2>1", true);
        holds("2>2", false);
        holds("2=2", true);
        holds("2=3", false);
        holds("all", true);
        holds("not all", false);
        holds("not not all", true);
        holds("all or all and not all", true);
        holds("[all or all] and not all", false);
        holds("not all or all", true);
        holds("not [all or all]", false);
        holds("not 1=2 and all", true);
        holds("not all and not all or not all", false);
        holds("asked=0", true);
        holds("will=2 and tall=3 and age=44 and month=0", true);
    }

    private static void value(String sum, long want) {
        OpenGraves x = Check.told("person p tall 3 age 44 will 2;takes " + sum + ";");
        due("takes " + sum, x.counts(0, 1), want);
    }

    private static void holds(String test, boolean want) {
        OpenGraves x = Check.told("person p tall 3 age 44 will 2;comes " + test + ";");
        due("comes " + test, x.persuade(0) == 2, want);
    }

    /** Promise 5. */
    private static void fault() {
        OpenGraves x = new OpenGraves();
        due("fault(0) ahead of any", x.fault(0), 0);
        due("fault(1) ahead of any", x.fault(1), NONE);
        due("fault(2)", x.fault(2), NONE);
        due("fault(-1)", x.fault(-1), NONE);
        Check.put(x, "often x");
        x.ask();
        due("fault(0) of ask()", x.fault(0), 1);
        due("fault(1) of ask()", x.fault(1), 6);
        x.months(1);
        due("fault(0) stays over other calls", x.fault(0), 1);
        Check.put(x, "");
        x.parish();
        due("fault(0) of a parish without one", x.fault(0), 0);
        due("fault(1) of a parish without one", x.fault(1), NONE);
        faultsOfWords();
        faultsOfNumbersAndNames();
        faultsOfOpenAndTooMany();
    }

    private static void faultsOfWords() {
        check.parishFault("x;", 1, 0);
        check.parishFault(";", 1, 0);
        check.parishFault("  gra", 1, 2);
        check.parishFault("gravel g", 1, 0);
        check.parishFault("Grave g", 1, 0);
        check.parishFault("grave", 1, 5);
        check.parishFault("grave \n ", 1, 8);
        check.parishFault("grave due", 1, 6);
        check.parishFault("grave max", 1, 6);
        check.parishFault("grave 1", 1, 6);
        check.parishFault("grave G", 1, 6);
        check.parishFault("grave abcdefg", 1, 12);
        check.parishFault("grave personx", 1, 12);
        check.parishFault("grave abcdef deep", 1, 13);
        check.parishFault("grave g1", 1, 7);
        check.parishFault("grave g long6", 1, 12);
        check.parishFault("grave g long 6deep", 1, 14);
        check.parishFault("grave g long 6 deeper", 1, 15);
        check.parishFault("grave g long 6\tdeep", 1, 14);
        check.parishFault("grave g long 6 deep 6 due 1", 1, 27);
        check.parishFault("grave g long 6 deep 6 due 1,", 1, 27);
        check.parishFault("grave first long 6 deep 6 due 1;person least tall 1 age 1 will 1;", 0, NONE);
        check.parishFault("grave g\nlong 6\n\ndeep 6 due 1 ; ", 0, NONE);
        check.parishFault("dies;", 1, 4);
        check.parishFault("dies asked;", 1, 5);
        check.parishFault("takes taken;", 1, 6);
        check.parishFault("comes taken=1;", 1, 6);
        check.parishFault("heart asked;", 1, 6);
        check.parishFault("harm number;", 1, 5);
        check.parishFault("harm alive;", 1, 5);
        check.parishFault("harm fits 1;", 1, 5);
        check.parishFault("harm due 1;", 1, 5);
        check.parishFault("harm 1 2;", 1, 7);
        check.parishFault("harm age1;", 1, 8);
        check.parishFault("harm 1age;", 1, 6);
        check.parishFault("harm (1;", 1, 7);
        check.parishFault("harm 1);", 1, 6);
        check.parishFault("harm min 1;", 1, 9);
        check.parishFault("harm min(1);", 1, 10);
        check.parishFault("harm max(1,2,3);", 1, 12);
        check.parishFault("harm 1+;", 1, 7);
        check.parishFault("harm -1;", 1, 5);
        check.parishFault("harm all;", 1, 5);
        check.parishFault("comes 1;", 1, 7);
        check.parishFault("comes 1<2<3;", 1, 9);
        check.parishFault("comes (1<2);", 1, 8);
        check.parishFault("comes [1];", 1, 8);
        check.parishFault("comes [all;", 1, 10);
        check.parishFault("comes all all;", 1, 10);
        check.parishFault("comes 1=2or all;", 1, 9);
        check.parishFault("comes notall;", 1, 6);
        check.parishFault("comes not[all]and all;", 0, NONE);
    }

    private static void faultsOfNumbersAndNames() {
        check.parishFault("grave g long 0", 2, 13);
        check.parishFault("grave g long 10 oops", 2, 13);
        check.parishFault("grave g long 0deep", 2, 13);
        check.parishFault("grave g long 12345", 1, 17);
        check.parishFault("grave g long 0009 deep 0000 due 0030;", 0, NONE);
        check.parishFault("grave g long 1 deep 10", 2, 20);
        check.parishFault("grave g long 1 deep 9 due 0", 2, 26);
        check.parishFault("grave g long 1 deep 0 due 31", 2, 26);
        check.parishFault("person p tall 0", 2, 14);
        check.parishFault("person p tall 10", 2, 14);
        check.parishFault("person p tall 9 age 100", 2, 20);
        check.parishFault("person p tall 9 age 99 will 10", 2, 28);
        check.parishFault("person p tall 9 age 0 will 0;", 0, NONE);
        check.parishFault("dies 9999;", 0, NONE);
        check.parishFault("dies 10000;", 1, 9);
        check.parishFault("grave g long 1 deep 0 due 1;grave g", 3, 34);
        check.parishFault("grave g long 1 deep 0 due 1;person g", 3, 35);
        check.parishFault("person g tall 1 age 0 will 1;grave g", 3, 35);
        check.parishFault("grave g long 1 deep 0 due 1;grave gg long 1 deep 0 due 1;", 0, NONE);
        check.parishFault("grave abcdef long 1 deep 0 due 1;grave abcdefg", 1, 45);
    }

    private static void faultsOfOpenAndTooMany() {
        check.parishFault("harm ((((((1))))));", 0, NONE);
        check.parishFault("harm (((((((1)))))));", 4, 11);
        check.parishFault("harm ((((((1))))))+((((((1))))));", 0, NONE);
        check.parishFault("harm (((((min(1,max(1,1))))))));", 4, 19);
        check.parishFault("harm min(min(min(min(min(min(1,1),1),1),1),1),1);", 0, NONE);
        check.parishFault("harm max(1,max(1,max(1,max(1,max(1,max(1,1))))));", 0, NONE);
        check.parishFault("harm max(1,max(1,max(1,max(1,max(1,max(1,min(1,1)))))));", 4, 44);
        check.parishFault("comes not not not not not not all;", 0, NONE);
        check.parishFault("comes not not not not not not not all;", 4, 30);
        check.parishFault("comes not not not not not not all and not all;", 0, NONE);
        check.parishFault("comes [[[[[[all]]]]]] or [all];", 0, NONE);
        check.parishFault("comes [[[[[[[all]]]]]]];", 4, 12);
        check.parishFault("comes not [not [not ((1))>3]];", 4, 21);
        check.parishFault("comes not [not [not (1)>3]] and not [all];", 0, NONE);
        StringBuilder graves = new StringBuilder();
        for (int g = 0; g < 6; g++) {
            graves.append("grave ").append((char) ('a' + g)).append(" long 1 deep 0 due 1;");
        }
        check.parishFault(graves.toString(), 0, NONE);
        check.parishFault(graves + " grave 7", 5, graves.length() + 1);
        StringBuilder people = new StringBuilder();
        for (int p = 0; p < 8; p++) {
            people.append("person ").append((char) ('a' + p)).append(" tall 1 age 0 will 1;");
        }
        check.parishFault(people.toString(), 0, NONE);
        check.parishFault(people + "person", 5, people.length());
        check.parishFault("dies 1;dies", 5, 7);
        check.parishFault("comes all;comes", 5, 10);
        check.parishFault("takes 1;takes", 5, 8);
        check.parishFault("heart 1;heart", 5, 8);
        check.parishFault("harm 1;harm", 5, 7);
    }

    /** Promise 6. */
    private static void has() {
        OpenGraves x = Check.told(VALE);
        Check.put(x, 1, 0, 0, 2, 1, 1);
        x.see();
        x.months(2);
        x.dig(2);
        long[] want = {3, 4, 2, 2, 1, 2, 2, 2, 2};
        for (int what = 0; what < want.length; what++) {
            due("has(" + what + ")", x.has(what), want[what]);
        }
        due("has(9)", x.has(9), NONE);
        due("has(-1)", x.has(-1), NONE);
    }

    /** Promise 7. */
    private static void letter() {
        OpenGraves x = Check.told("grave abcxyz long 1 deep 1 due 1;grave q long 1 deep 1 due 1;person zm tall 1 age 1 will 1;");
        int[] first = {1, 2, 3, 24, 25, 26};
        for (int k = 0; k < 6; k++) {
            due("letter(0, 0, " + k + ")", x.letter(0, 0, k), first[k]);
            due("letter(0, 1, " + k + ")", x.letter(0, 1, k), k == 0 ? 17 : 0);
            due("letter(1, 0, " + k + ")", x.letter(1, 0, k), k == 0 ? 26 : k == 1 ? 13 : 0);
        }
        due("letter(0, 0, 6)", x.letter(0, 0, 6), NONE);
        due("letter(0, 0, -1)", x.letter(0, 0, -1), NONE);
        due("letter(0, 2, 0)", x.letter(0, 2, 0), NONE);
        due("letter(0, -1, 0)", x.letter(0, -1, 0), NONE);
        due("letter(1, 1, 0)", x.letter(1, 1, 0), NONE);
        due("letter(2, 0, 0)", x.letter(2, 0, 0), NONE);
        due("letter(-1, 0, 0)", x.letter(-1, 0, 0), NONE);
    }

    /** Promise 8. */
    private static void grave() {
        OpenGraves x = Check.told(VALE);
        long[][] want = {{6, 6, 2, NONE, 1}, {3, 7, 1, NONE, 1}, {8, 5, 4, NONE, 0}};
        for (int g = 0; g < 3; g++) {
            for (int what = 0; what < 5; what++) {
                due("grave(" + g + ", " + what + ")", x.grave(g, what), want[g][what]);
            }
        }
        due("grave(0, 5)", x.grave(0, 5), NONE);
        due("grave(0, -1)", x.grave(0, -1), NONE);
        due("grave(3, 0)", x.grave(3, 0), NONE);
        due("grave(-1, 0)", x.grave(-1, 0), NONE);
        x.fill(2, 2);
        x.months(2);
        due("who is in yew", x.grave(2, 3), 2);
        due("yew does not ask", x.grave(2, 4), 0);
        due("yew, which never asked, is due as at first", x.grave(2, 2), 4);
        due("who is in gate", x.grave(1, 3), 1);
        due("gate does not ask", x.grave(1, 4), 0);
        due("gate was filled ahead of the due", x.grave(1, 2), 1);
        due("hedge took at 0", x.grave(0, 2), 0);
    }

    /** Promise 9. */
    private static void person() {
        OpenGraves x = Check.told(VALE);
        long[] want = {5, 71, 4, 1};
        for (int what = 0; what < 4; what++) {
            due("person(0, " + what + ")", x.person(0, what), want[what]);
        }
        due("person(0, 4)", x.person(0, 4), NONE);
        due("person(0, -1)", x.person(0, -1), NONE);
        due("person(4, 0)", x.person(4, 0), NONE);
        due("person(-1, 0)", x.person(-1, 0), NONE);
        x.months(1);
        due("bee came", x.person(1, 3), 0);
        due("bee's will stays", x.person(1, 2), 9);
    }

    /** Promise 10. */
    private static void counts() {
        OpenGraves x = Check.told("person p tall 1 age 20 will 3;person q tall 1 age 90 will 4;person r tall 1 age 40 will 3;"
                + "dies (age-30)*2;takes (age-30)*50-month;harm (age-30)*20;");
        long[][] want = {{0, -500, 0}, {100, 3000, 999}, {20, 500, 200}};
        for (int p = 0; p < 3; p++) {
            for (int what = 0; what < 3; what++) {
                due("counts(" + p + ", " + what + ")", x.counts(p, what), want[p][what]);
            }
        }
        due("counts(0, 3)", x.counts(0, 3), NOTHING);
        due("counts(0, -1)", x.counts(0, -1), NOTHING);
        due("counts(3, 0)", x.counts(3, 0), NOTHING);
        due("counts(-1, 0)", x.counts(-1, 0), NOTHING);
        x.months(7);
        due("counts(2, 1) in month 7", x.counts(2, 1), 493);
        x.chance(1);
        due("q has died", x.person(1, 3), 0);
        due("counts of one who is not alive", x.counts(1, 1), 2992);
        OpenGraves y = Check.told(PLAIN);
        due("usual dies", y.counts(1, 0), 6);
        due("usual takes", y.counts(1, 1), 60);
        due("usual harm", y.counts(1, 2), 3);
    }

    /** Promise 11. */
    private static void next() {
        OpenGraves x = Check.told("grave a long 9 deep 6 due 3;grave b long 5 deep 6 due 2;grave c long 6 deep 9 due 2;"
                + "grave d long 9 deep 5 due 1;person p tall 5 age 1 will 1;person q tall 6 age 1 will 1;"
                + "person r tall 7 age 1 will 1;");
        due("of like ones the first", x.next(0), 1);
        due("the one in which he fits", x.next(1), 2);
        due("the long one", x.next(2), 0);
        due("next(3)", x.next(3), NONE);
        due("next(-1)", x.next(-1), NONE);
        x.dig(3);
        due("the one that asks since", x.next(2), 3);
        x.fill(3, 0);
        due("of one who is not alive", x.next(0), NONE);
        due("not the one that is filled", x.next(2), 0);
        x.fill(0, 1);
        due("without one", x.next(2), NONE);
    }

    /** Promise 12. */
    private static void kept() {
        OpenGraves x = Check.told(VALE);
        x.months(2);
        x.fill(2, 3);
        long[][] want = {{0, 1, 1, 0}, {1, 0, 0, 1}, {2, 3, 2, 3}};
        for (int k = 0; k < 3; k++) {
            for (int what = 0; what < 4; what++) {
                due("kept(" + k + ", " + what + ")", x.kept(k, what), want[k][what]);
            }
        }
        due("kept(3, 0)", x.kept(3, 0), NONE);
        due("kept(-1, 0)", x.kept(-1, 0), NONE);
        due("kept(0, 4)", x.kept(0, 4), NONE);
        due("kept(0, -1)", x.kept(0, -1), NONE);
        x.undo();
        due("kept behind undo()", x.has(6), 2);
        due("kept(2, 1) behind undo()", x.kept(2, 1), NONE);
        OpenGraves y = Check.told("grave g long 5 deep 6 due 9;person p tall 5 age 1 will 1;person q tall 5 age 1 will 1;dies 100;");
        y.chance(1);
        due("p died into the grave", y.kept(0, 2), 0);
        due("how p went", y.kept(0, 3), 2);
        due("q died into the churchyard", y.kept(1, 2), NONE);
        due("who went", y.kept(1, 1), 1);
        due("how q went", y.kept(1, 3), 2);
    }

    /** Promise 13. */
    private static void later() {
        OpenGraves x = Check.told(PLAIN);
        due("later(0, 0)", x.later(0, 0), NONE);
        due("later(0, 2)", x.later(0, 2), NONE);
        due("later(0, 3)", x.later(0, 3), 0);
        due("later(0, 60)", x.later(0, 60), 0);
        due("later(0, 61)", x.later(0, 61), NONE);
        due("later(0, -1)", x.later(0, -1), NONE);
        due("later(1, 3)", x.later(1, 3), NONE);
        due("later(-1, 3)", x.later(-1, 3), NONE);
        due("all stays", x.has(2), 0);
        due("nothing is kept by looking", x.has(6), 0);
        x.fill(0, 0);
        due("later(0, 0) of a filled one", x.later(0, 0), 0);
        Check.advance(x, 997);
        due("later(0, 2) in month 997", x.later(0, 2), 0);
        due("later(0, 3) in month 997", x.later(0, 3), NONE);
    }

    /** Promise 14. */
    private static void filled() {
        OpenGraves x = Check.told(PLAIN);
        due("filled(0)", x.filled(0), 3);
        due("filled(1)", x.filled(1), NONE);
        due("filled(-1)", x.filled(-1), NONE);
        x.fill(0, 0);
        due("filled(0) now", x.filled(0), 0);
        String late = "grave g long 9 deep 6 due 30;grave h long 1 deep 6 due 30;person p tall 8 age 1 will 1;";
        due("a grave that nobody fits", Check.told(late).filled(1), NONE);
        String shallow = "grave g long 9 deep 5 due 1;person p tall 1 age 1 will 1;";
        due("a grave that does not ask", Check.told(shallow).filled(0), NONE);
        OpenGraves y = Check.told("grave g long 9 deep 6 due 30;person p tall 1 age 1 will 1;");
        due("filled behind 30", y.filled(0), 30);
        Check.advance(y, 29);
        due("filled behind 1", y.filled(0), 1);
        OpenGraves z = Check.told("grave g long 9 deep 5 due 30;person p tall 1 age 1 will 1;");
        Check.advance(z, 970);
        z.dig(0);
        due("filled behind 30 is beyond 999", z.filled(0), NONE);
        z.undo();
        z.undo();
        Check.advance(z, 969);
        z.dig(0);
        due("filled in the last month", z.filled(0), 30);
    }

    /** Promise 15. */
    private static void taken() {
        OpenGraves x = Check.told("grave a long 5 deep 6 due 1;grave b long 5 deep 6 due 1;grave c long 5 deep 6 due 4;"
                + "person p tall 5 age 1 will 1;person q tall 5 age 2 will 1;person r tall 5 age 3 will 1;"
                + "person s tall 5 age 0 will 9;");
        due("taken(0)", x.taken(0), 0);
        // s comes into a, b takes r
        due("taken(1)", x.taken(1), 1);
        due("taken(3)", x.taken(3), 1);
        due("taken(4)", x.taken(4), 2);
        due("taken(60)", x.taken(60), 2);
        due("taken(61)", x.taken(61), NONE);
        due("taken(-1)", x.taken(-1), NONE);
        Check.advance(x, 990);
        due("taken(9) in month 990", x.taken(9), 0);
        due("taken(10) in month 990", x.taken(10), NONE);
    }

    /** Promise 16. */
    private static void row() {
        OpenGraves x = Check.told(VALE);
        due("row(0)", x.row(0), 2);
        // abe in hedge is 29, bee in gate is 92
        due("row(1)", x.row(1), 121);
        due("row(2)", x.row(2), 0);
        due("row(3)", x.row(3), 1);
        due("row(4) does not ask", x.row(4), NONE);
        due("row(5)", x.row(5), NONE);
        due("row(-1)", x.row(-1), NONE);
        // to fill both, p must go into b, though he is the least harm in a
        OpenGraves y = Check.told("grave a long 9 deep 6 due 1;grave b long 2 deep 6 due 1;grave c long 1 deep 6 due 1;"
                + "person p tall 2 age 1 will 9;person q tall 9 age 1 will 0;");
        due("most are filled", y.row(0), 2);
        due("their harm", y.row(1), 9);
        due("a", y.row(2), 1);
        due("b", y.row(3), 0);
        due("c, that nobody fits", y.row(4), NONE);
        // all alike: nobody ahead of people, people by numbers
        OpenGraves z = Check.told("grave a long 9 deep 6 due 1;grave b long 9 deep 6 due 1;grave c long 9 deep 6 due 1;"
                + "person p tall 1 age 1 will 5;person q tall 1 age 1 will 5;");
        due("two of three", z.row(0), 2);
        due("nobody first", z.row(2), NONE);
        due("then the first", z.row(3), 0);
        due("then the second", z.row(4), 1);
        z.fill(1, 0);
        due("one is left", z.row(0), 1);
        due("its harm", z.row(1), 4);
        due("nobody in a", z.row(2), NONE);
        due("b is filled", z.row(3), NONE);
        due("q in c", z.row(4), 1);
        OpenGraves cut = Check.told("grave a long 9 deep 6 due 1;person p tall 1 age 1 will 5;person q tall 1 age 2 will 5;harm 0-age;");
        due("harm is 0 at least", cut.row(1), 0);
        due("of like ones the first", cut.row(2), 0);
        cut = Check.told("grave a long 9 deep 6 due 1;person p tall 1 age 2 will 5;person q tall 1 age 1 will 5;harm 999+age;");
        due("harm is 999 at most", cut.row(1), 999);
        due("of like ones the first", cut.row(2), 0);
    }

    /** Promise 17. */
    private static void persuade() {
        OpenGraves x = Check.told("grave a long 9 deep 6 due 9;grave b long 9 deep 5 due 9;person p tall 1 age 1 will 2;"
                + "person q tall 1 age 30 will 2;person r tall 1 age 40 will 7;person s tall 1 age 99 will 1;"
                + "comes will*10>age+asked*20 and will>3 or will=1 and age=1;");
        due("persuade(0)", x.persuade(0), 4);
        due("persuade(1)", x.persuade(1), 6);
        due("persuade(2), as he is", x.persuade(2), 7);
        due("persuade(3), by none", x.persuade(3), NONE);
        due("persuade(4)", x.persuade(4), NONE);
        due("persuade(-1)", x.persuade(-1), NONE);
        x.dig(1);
        due("persuade(0) when two ask", x.persuade(0), 5);
        due("persuade(1) when two ask", x.persuade(1), 8);
        x.fill(0, 1);
        due("persuade one who is not alive", x.persuade(1), NONE);
        due("persuade(0) when one asks again", x.persuade(0), 4);
    }

    /** Promise 18. */
    private static void enemy() {
        OpenGraves x = Check.told("grave a long 1 deep 5 due 1;grave b long 9 deep 5 due 1;grave c long 9 deep 4 due 12;"
                + "person p tall 5 age 1 will 1;person q tall 5 age 1 will 1;");
        due("one foot", x.enemy(1, NONE), 1);
        due("in b", x.enemy(1, 0), 1);
        due("enemy(1, 1)", x.enemy(1, 1), NONE);
        due("enemy(1, -2)", x.enemy(1, -2), NONE);
        due("two feet", x.enemy(2, NONE), 1);
        due("of like ones the first", x.enemy(2, 0), 0);
        due("rising", x.enemy(2, 1), 1);
        due("three feet", x.enemy(3, NONE), 2);
        due("the first of three", x.enemy(3, 0), 1);
        due("the second of three", x.enemy(3, 1), 2);
        due("the third of three", x.enemy(3, 2), 2);
        due("four feet", x.enemy(4, NONE), 2);
        due("the first of four", x.enemy(4, 0), 0);
        due("the last of four", x.enemy(4, 3), 2);
        due("enemy(0)", x.enemy(0, NONE), NONE);
        due("enemy(5)", x.enemy(5, NONE), NONE);
        due("all stays", x.grave(1, 1), 5);
        OpenGraves late = Check.told("grave c long 9 deep 5 due 13;person p tall 5 age 1 will 1;");
        due("nobody is taken by it within 12", late.enemy(1, NONE), 0);
        due("yet it is dug", late.enemy(1, 0), 0);
        OpenGraves deep = Check.told("grave a long 9 deep 8 due 1;grave b long 9 deep 9 due 1;grave c long 9 deep 8 due 1;"
                + "person p tall 5 age 1 will 1;");
        due("two feet can be dug", deep.enemy(2, NONE), 1);
        due("the first in a", deep.enemy(2, 0), 0);
        due("the second in c", deep.enemy(2, 1), 2);
        due("three can't", deep.enemy(3, NONE), NONE);
        deep.fill(0, 0);
        due("one, in c", deep.enemy(1, 0), 2);
        due("two can't, as a is filled", deep.enemy(2, NONE), NONE);
        OpenGraves old = Check.told("grave a long 9 deep 5 due 1;person p tall 5 age 1 will 1;");
        Check.advance(old, 987);
        due("in month 987", old.enemy(1, NONE), 1);
        old.months(1);
        due("in month 988", old.enemy(1, NONE), NONE);
    }

    /** Promise 19. */
    private static void odds() {
        OpenGraves x = Check.told(PLAIN);
        due("odds(0)", x.odds(0), 500);
        due("odds(NONE)", x.odds(NONE), 10000);
        due("odds(1)", x.odds(1), NOTHING);
        due("odds(-2)", x.odds(-2), NOTHING);
        x.months(2);
        due("due in the next month", x.odds(0), 10000);
        x.months(1);
        due("filled already", x.odds(0), 100);
        OpenGraves y = Check.told(VALE);
        // by abe's or dan's death: 1 - 0.92 * 0.94
        due("odds of hedge", y.odds(0), 13520000);
        due("odds of gate", y.odds(1), 100000000);
        due("odds of yew", y.odds(2), 0);
        OpenGraves sure = Check.told("grave a long 9 deep 6 due 9;grave b long 9 deep 6 due 9;person p tall 1 age 1 will 1;"
                + "person q tall 1 age 30 will 1;dies age*4;comes age>20;");
        // p dies by 4; q dies by 100
        due("a is filled by p or q", sure.odds(0), 10000);
        due("b is filled if p dies ahead", sure.odds(1), 400);
        StringBuilder many = new StringBuilder("grave a long 9 deep 6 due 9;grave b long 9 deep 6 due 1;");
        for (int p = 0; p < 8; p++) {
            many.append("person p").append((char) ('a' + p)).append(" tall 1 age 10 will 0;");
        }
        OpenGraves eight = Check.told(many.toString());
        due("all rows of eight", eight.odds(NONE), 10000000000000000L);
        due("b is due", eight.odds(1), 10000000000000000L);
        // a is filled if two die at least: 10^16 - 99^8 - 8 * 99^7
        due("a by two deaths", eight.odds(0), 10000000000000000L - 9227446944279201L - 8 * 93206534790699L);
        Check.advance(x, 998);
        due("odds in month 998", x.odds(0), 100);
        x.months(1);
        due("odds in month 999", x.odds(0), NOTHING);
        due("odds(NONE) in month 999", x.odds(NONE), NOTHING);
    }

    /** Promise 20. */
    private static void see() {
        OpenGraves x = Check.told(PLAIN);
        Check.put(x, 0, 0, 0);
        due("see() of a row", x.see(), 1);
        due("the tape has gone", x.end(1), false);
        Check.put(x, 30, 0, 1, 0, 0, 1);
        due("see() of two rows", x.see(), 2);
        due("they are there alone", x.has(7), 2);
        int[][] wrong = {{}, {0}, {0, 0}, {0, 0, 0, 0}, {31, 0, 0}, {0, 1, 0}, {0, 0, 2}, {0, 0, 0, 0, 0, 255}};
        for (int k = 0; k < wrong.length; k++) {
            Check.put(x, wrong[k]);
            due("see() of what is none, " + k, x.see(), NONE);
            due("rows stay", x.has(7), 2);
        }
        due("status(1)", x.status(1), wrong.length);
        Check.put(x, new int[48]);
        due("see() of 16 rows", x.see(), 16);
        Check.put(x, new int[51]);
        due("see() of 17 rows", x.see(), NONE);
        due("16 rows stay", x.has(7), 16);
        x.months(1);
        due("rows stay over months", x.has(7), 16);
        OpenGraves y = new OpenGraves();
        Check.put(y, 0, 0, 0);
        due("see() without graves", y.see(), NONE);
    }

    private static int willsSeen(OpenGraves x, int person, int... rows) {
        Check.put(x, rows);
        x.see();
        return x.wills(person);
    }

    private static final String RISING = "grave g long 5 deep 6 due 30;grave h long 4 deep 5 due 30;"
            + "person p tall 5 age 50 will 0;person q tall 6 age 1 will 1;heart min(9,will+1);";

    /** Promise 21. */
    private static void wills() {
        OpenGraves x = Check.told(PLAIN);
        due("by nothing seen", x.wills(0), 1023);
        due("wills(2)", x.wills(2), NONE);
        due("wills(-1)", x.wills(-1), NONE);
        due("filled behind 1", willsSeen(x, 0, 1, 0, 1), 512);
        due("of another", x.wills(1), 0);
        due("not filled behind 2", willsSeen(x, 0, 2, 0, 0), 511);
        due("not filled behind 2, then filled", willsSeen(x, 0, 2, 0, 0, 3, 0, 1), 511);
        due("filled behind 3", willsSeen(x, 0, 3, 0, 1), 1023);
        due("filled now", willsSeen(x, 0, 0, 0, 1), 0);
        due("not filled now", willsSeen(x, 0, 0, 0, 0), 1023);
        OpenGraves y = Check.told(RISING);
        due("filled behind 5", willsSeen(y, 0, 5, 0, 1), 992);
        due("filled behind 5, not behind 3", willsSeen(y, 0, 5, 0, 1, 3, 0, 0), 96);
        due("both ways", willsSeen(y, 0, 5, 0, 1, 5, 0, 0), 0);
        y.fill(0, 0);
        due("of one who is not alive", y.wills(0), NONE);
        due("filled now, by another", willsSeen(y, 1, 0, 0, 1), 1023);
        Check.advance(y, 998);
        due("a month ahead of 998", willsSeen(y, 1, 1, 0, 1), 1023);
        due("two months ahead of 998", willsSeen(y, 1, 2, 0, 1), 0);
        due("one of them beyond 999", willsSeen(y, 1, 0, 0, 1, 2, 0, 1), 0);
    }

    /** Promise 22. */
    private static void tells() {
        OpenGraves x = Check.told(PLAIN);
        due("the months", x.tells(0, 0), 1);
        due("the grave", x.tells(0, 1), 0);
        due("the most left", x.tells(0, 2), 9);
        due("tells(0, 3)", x.tells(0, 3), NONE);
        due("tells(0, -1)", x.tells(0, -1), NONE);
        due("tells(2, 0)", x.tells(2, 0), NONE);
        due("of one of whom nothing tells: the first", x.tells(1, 0), 1);
        due("of one of whom nothing tells: all are left", x.tells(1, 2), 10);
        willsSeen(x, 0, 0, 0, 1);
        due("without any will", x.tells(0, 0), NONE);
        OpenGraves y = Check.told(RISING);
        due("half of them", y.tells(0, 0), 5);
        due("by g", y.tells(0, 1), 0);
        due("five are left", y.tells(0, 2), 5);
        willsSeen(y, 0, 5, 0, 1);
        due("of five", y.tells(0, 0), 2);
        due("three are left", y.tells(0, 2), 3);
        OpenGraves z = Check.told("grave h long 4 deep 6 due 30;grave g long 5 deep 6 due 29;"
                + "person p tall 4 age 1 will 0;person q tall 5 age 1 will 0;heart min(9,will+1);");
        // both rise alike, but q is ahead in month 9 only if p came into h: p goes into g, due first
        due("the grave that tells is the second", z.tells(0, 1), 1);
        OpenGraves none = Check.told("person p tall 4 age 1 will 0;");
        due("without graves", none.tells(0, 0), NONE);
        OpenGraves last = Check.told(PLAIN);
        Check.advance(last, 998);
        due("when one month comes", last.tells(1, 0), 1);
        due("all are left by it", last.tells(1, 2), 10);
        last.months(1);
        due("when no month comes", last.tells(1, 0), NONE);
        due("though there are wills", last.wills(1), 1023);
        OpenGraves late = Check.told("grave g long 5 deep 5 due 30;person p tall 5 age 1 will 0;heart month*0;");
        Check.advance(late, 996);
        late.dig(0);
        due("in month 996 the first tells", late.tells(0, 0), 1);
        due("nine are left", late.tells(0, 2), 9);
    }

    /** Promise 23. */
    private static void dig() {
        OpenGraves x = Check.told("grave g long 5 deep 7 due 3;grave h long 5 deep 0 due 3;person p tall 5 age 1 will 1;");
        due("dig(0)", x.dig(0), 8);
        due("dig(0) again", x.dig(0), 9);
        due("dig(0) at nine", x.dig(0), NONE);
        due("dig(1)", x.dig(1), 1);
        due("dig(2)", x.dig(2), NONE);
        due("dig(-1)", x.dig(-1), NONE);
        due("acts", x.has(8), 3);
        x.fill(1, 0);
        due("dig a filled one", x.dig(1), NONE);
        due("status(2)", x.status(2), 4);
        due("it stays", x.grave(1, 1), 1);
    }

    /** Promise 24. */
    private static void fill() {
        OpenGraves x = Check.told("grave g long 5 deep 0 due 3;grave h long 5 deep 6 due 3;person p tall 5 age 1 will 1;"
                + "person q tall 6 age 1 will 1;person r tall 1 age 1 will 1;");
        due("he does not fit", x.fill(0, 1), false);
        due("fill(2, 0)", x.fill(2, 0), false);
        due("fill(-1, 0)", x.fill(-1, 0), false);
        due("fill(0, 3)", x.fill(0, 3), false);
        due("fill(0, -1)", x.fill(0, -1), false);
        due("into one that does not ask", x.fill(0, 0), true);
        due("it is filled", x.fill(0, 2), false);
        due("he is not alive", x.fill(1, 0), false);
        due("into one that asks", x.fill(1, 2), true);
        due("status(2)", x.status(2), 7);
        due("alive", x.has(3), 1);
        due("filled", x.has(5), 2);
        due("acts", x.has(8), 2);
        due("how", x.kept(1, 3), 3);
    }

    /** Promise 25. */
    private static void talk() {
        OpenGraves x = Check.told(PLAIN);
        due("talk(0, 5), as he is", x.talk(0, 5), false);
        due("talk(0, 0)", x.talk(0, 0), true);
        due("talk(0, 9)", x.talk(0, 9), true);
        due("talk(0, 10)", x.talk(0, 10), false);
        due("talk(0, -1)", x.talk(0, -1), false);
        due("talk(2, 1)", x.talk(2, 1), false);
        due("talk(-1, 1)", x.talk(-1, 1), false);
        due("will", x.person(0, 2), 9);
        due("acts", x.has(8), 2);
        x.months(1);
        due("he came", x.grave(0, 3), 0);
        due("talk to one who is not alive", x.talk(0, 1), false);
        due("status(2)", x.status(2), 6);
    }

    /** Promise 26. */
    private static void months() {
        OpenGraves x = Check.told(VALE);
        due("months(0)", x.months(0), NONE);
        due("months(101)", x.months(101), NONE);
        due("months(-1)", x.months(-1), NONE);
        due("status(3)", x.status(3), 3);
        due("months(1)", x.months(1), 0);
        due("bee came into gate", x.grave(1, 3), 1);
        due("hedge is due sooner", x.grave(0, 2), 1);
        due("yew, which does not ask, is not", x.grave(2, 2), 4);
        due("months(1)", x.months(1), 1);
        due("hedge took abe", x.grave(0, 3), 0);
        due("cyd's heart", x.person(2, 2), 3);
        due("dan's heart", x.person(3, 2), 7);
        due("abe's heart, who is not alive", x.person(0, 2), 4);
        due("months(100), one act", x.months(100), 0);
        due("acts", x.has(8), 3);
        due("month", x.has(2), 102);
        due("eight years older", x.person(2, 1), 48);
        Check.advance(x, 990);
        due("beyond 999", x.months(10), NONE);
        due("up to 999", x.months(9), 0);
        due("in month 999", x.months(1), NONE);
        due("age is 99 at most", x.person(3, 1), 99);
        monthByMonth();
    }

    private static void monthByMonth() {
        // who comes sees how many still ask; the second has nowhere to go
        OpenGraves x = Check.told("grave g long 9 deep 6 due 9;grave h long 9 deep 6 due 8;person p tall 1 age 1 will 1;"
                + "person q tall 1 age 1 will 1;person r tall 1 age 1 will 1;comes asked=2 or age=2;heart 5-9*taken;");
        x.months(1);
        due("p into h, due first", x.grave(1, 3), 0);
        due("q did not come", x.person(1, 3), 1);
        due("hearts without taken", x.person(1, 2), 5);
        x.months(7);
        due("g took nobody yet", x.grave(0, 3), NONE);
        due("months(1) until g is due", x.months(1), 1);
        due("of like ones the first", x.grave(0, 3), 1);
        due("a heart below 0 is 0", x.person(2, 2), 0);
        OpenGraves y = Check.told("grave g long 3 deep 6 due 1;grave h long 9 deep 6 due 1;grave i long 9 deep 6 due 2;"
                + "person p tall 4 age 10 will 1;person q tall 4 age 80 will 1;takes 0-age;heart will+50;comes month>900;");
        due("g takes nobody, h takes p", y.months(1), 1);
        due("g stays due in 0", y.grave(0, 2), 0);
        due("least age is most by takes", y.grave(1, 3), 0);
        due("a heart above 9 is 9", y.person(1, 2), 9);
        due("i takes q", y.months(1), 1);
        due("g still is due in 0", y.grave(0, 2), 0);
        OpenGraves z = Check.told("person p tall 4 age 10 will 1;person q tall 4 age 99 will 1;heart age/2;takes month;");
        z.months(11);
        due("in month 11", z.person(0, 1), 10);
        z.months(1);
        due("a year older behind month 11", z.person(0, 1), 11);
        due("99 at most", z.person(1, 1), 99);
        due("hearts ahead of years", z.person(0, 2), 5);
        z.months(11);
        due("in month 23", z.person(0, 1), 11);
        z.months(1);
        due("behind month 23", z.person(0, 1), 12);
    }

    /** Promise 27. */
    private static void chance() {
        OpenGraves x = Check.told("grave g long 5 deep 6 due 9;person p tall 5 age 1 will 1;person q tall 5 age 1 will 1;"
                + "person r tall 5 age 1 will 1;dies 50;");
        due("chance(0)", x.chance(0), NONE);
        due("chance(101)", x.chance(101), NONE);
        due("status(3)", x.status(3), 2);
        // the draws of seed 1: 18, 99, 26
        due("p dies of 18, r of 26; q does not of 99", x.chance(1), 2);
        due("p is in his next grave", x.grave(0, 3), 0);
        due("how", x.kept(0, 3), 2);
        due("q is alive", x.person(1, 3), 1);
        due("r has died", x.kept(1, 1), 2);
        due("into the churchyard, as no grave asks any more", x.kept(1, 2), NONE);
        due("month", x.has(2), 1);
        due("acts", x.has(8), 1);
        OpenGraves y = Check.told("grave g long 5 deep 6 due 1;person p tall 9 age 1 will 1;person q tall 5 age 1 will 9;dies 19;");
        due("one who fits nowhere dies into the churchyard", y.chance(1), 1);
        due("the month goes on: q comes", y.grave(0, 3), 1);
        due("the churchyard", y.kept(0, 2), NONE);
        OpenGraves z = Check.told("person p tall 9 age 1 will 1;dies 0-5;");
        due("nobody dies below 0", z.chance(100), 0);
        due("one act", z.has(8), 1);
        Check.advance(z, 990);
        due("beyond 999", z.chance(10), NONE);
        due("up to 999", z.chance(9), 0);
        OpenGraves sure = Check.told("person p tall 9 age 1 will 1;person q tall 9 age 1 will 1;dies 200;");
        due("all die above 100", sure.chance(3), 2);
        due("nobody is alive", sure.has(3), 0);
    }

    /** Promise 28. */
    private static void undo() {
        OpenGraves x = Check.told(VALE);
        due("undo() of none", x.undo(), false);
        due("status(4)", x.status(4), 1);
        x.dig(2);
        x.fill(2, 2);
        x.talk(0, 1);
        x.months(3);
        x.chance(2);
        due("acts", x.has(8), 5);
        due("undo chance", x.undo(), true);
        due("month behind it", x.has(2), 3);
        due("undo months", x.undo(), true);
        due("month behind that", x.has(2), 0);
        due("alive behind that", x.has(3), 3);
        due("due behind that", x.grave(0, 2), 2);
        due("kept behind that", x.has(6), 1);
        due("undo talk", x.undo(), true);
        due("will behind it", x.person(0, 2), 4);
        due("undo fill", x.undo(), true);
        due("alive behind it", x.person(2, 3), 1);
        due("grave behind it", x.grave(2, 3), NONE);
        due("undo dig", x.undo(), true);
        due("deep behind it", x.grave(2, 1), 5);
        due("undo() of none any more", x.undo(), false);
        OpenGraves y = Check.told(PLAIN);
        for (int n = 0; n < 25; n++) {
            y.months(1);
        }
        due("20 at most", y.has(8), 20);
        for (int n = 0; n < 20; n++) {
            due("undo number " + n, y.undo(), true);
        }
        due("the 21st", y.undo(), false);
        due("month 5 is left", y.has(2), 5);
        y.months(2);
        due("an act behind undone ones", y.undo(), true);
        due("month 5 again", y.has(2), 5);
        OpenGraves long45 = Check.told(PLAIN);
        for (int n = 0; n < 45; n++) {
            long45.months(1);
        }
        for (int n = 44; n >= 25; n--) {
            long45.undo();
            due("month behind one more undone of 45", long45.has(2), n);
        }
        due("20 of 45 are undone", long45.undo(), false);
        // refused calls are no acts
        y.dig(7);
        y.talk(1, 11);
        y.months(0);
        due("no act", y.has(8), 0);
    }

    /** Promise 29. */
    private static void seed() {
        OpenGraves x = Check.told("person p tall 1 age 1 will 1;dies 13;");
        due("seed(-1)", x.seed(-1), false);
        due("status(5)", x.status(5), 1);
        due("seed(2)", x.seed(2), true);
        due("12 is below 13", x.chance(1), 1);
        x.undo();
        due("seed(0)", x.seed(0), true);
        // of seed 0: 12345 / 64 = 192, mod 100 = 92
        due("92 is not", x.chance(1), 0);
        due("seed 2147483647", x.seed(2147483647), true);
        // (2^31 - 1) * 1103515245 + 12345 mod 2^31 = 2^31 - 1103502900 = 1043980748; / 64 = 16312199; mod 100 = 99
        OpenGraves y = Check.told("person p tall 1 age 1 will 1;dies 99;");
        y.seed(2147483647);
        due("99 is not below 99", y.chance(1), 0);
        y = Check.told("person p tall 1 age 1 will 1;dies 100;");
        y.seed(2147483647);
        due("99 is below 100", y.chance(1), 1);
    }

    /** Promise 30. */
    private static void ask() {
        OpenGraves x = Check.told(VALE);
        x.months(1);
        question(x, "first all", 0);
        question(x, "last all", 3);
        question(x, "often all", 4);
        question(x, "first age<50", 1);
        question(x, "last age<50", 2);
        question(x, "often age<50", 2);
        question(x, "first age>98", NONE);
        question(x, "last age>98", NONE);
        question(x, "often age>98", 0);
        question(x, "often alive=1", 3);
        question(x, "first not alive=1", 1);
        question(x, "total age", 174);
        question(x, "most age", 71);
        question(x, "least age", 8);
        question(x, "least 0-age", -71);
        question(x, "most 0-age", -8);
        question(x, "total number*number", 14);
        question(x, "total month", 4);
        question(x, "total 9999*9999", 4000000);
        question(x, "total fits 0", 3);
        question(x, "total fits(1+1)", 4);
        question(x, "total fits 3", 0);
        question(x, "total fits (0-1)", 0);
        question(x, "most due 0", 1);
        question(x, "most due 2*10", 40);
        question(x, "most due 3", 0);
        question(x, "least fits 3", 0);
        question(x, "most due due 0", 1);
        question(x, "total fits number", 3);
        question(x, "total fits fits number", 2);
        question(x, "total min(will,5)+max(tall,6)\n", 4 + 6 + 5 + 6 + 2 + 7 + 5 + 6);
        question(x, " \nfirst[will=9 or all]and not tall=5", 1);
        Check.put(x, "total age");
        x.ask();
        due("the tape has gone", x.end(1), false);
        due("nothing is refused by it", x.status(1), 0);
        OpenGraves y = new OpenGraves();
        question(y, "most 7", 0);
        question(y, "least 7", 0);
        question(y, "total 7", 0);
        question(y, "last all", NONE);
        questionFaults(x);
    }

    private static void question(OpenGraves x, String text, long want) {
        due("ask() of <" + text + ">", Check.ask(x, text), want);
        due("fault of <" + text + ">", x.fault(0), 0);
        due("place of <" + text + ">", x.fault(1), NONE);
    }

    private static void questionFaults(OpenGraves x) {
        check.questionFault(x, "", 1, 0);
        check.questionFault(x, "  ", 1, 2);
        check.questionFault(x, "all", 1, 0);
        check.questionFault(x, "firsts all", 1, 0);
        check.questionFault(x, "first", 1, 5);
        check.questionFault(x, "first age", 1, 9);
        check.questionFault(x, "first all;", 1, 9);
        check.questionFault(x, "first all all", 1, 10);
        check.questionFault(x, "total all", 1, 6);
        check.questionFault(x, "total 1<2", 1, 7);
        check.questionFault(x, "total asked", 1, 6);
        check.questionFault(x, "total taken", 1, 6);
        check.questionFault(x, "total abe", 1, 6);
        check.questionFault(x, "total fits", 1, 10);
        check.questionFault(x, "total fits0", 1, 10);
        check.questionFault(x, "total fits age tall", 1, 15);
        check.questionFault(x, "total 12345", 1, 10);
        check.questionFault(x, "total fits due fits due fits due 1", 0, NONE);
        check.questionFault(x, "total fits due fits due fits due fits 1", 4, 33);
        check.questionFault(x, "total fits due fits due fits due (1)", 4, 33);
        check.questionFault(x, "total fits fits fits fits fits fits 1 + fits 1", 0, NONE);
        check.questionFault(x, "first not [not (fits due 1)=1]", 0, NONE);
        check.questionFault(x, "first not not [not (fits due 1)=1]", 4, 25);
        check.questionFault(x, "first not not [not not not fits 1=1]", 4, 27);
    }

    /** Promise 31. */
    private static void image() {
        check.same("empty", Check.imageOf(new OpenGraves()), new int[] {0, 0, 161});
        OpenGraves x = Check.told(PLAIN);
        check.same("plain", Check.imageOf(x), Check.sealed(0, 0, 6, 3, 255, 1, 50, 5, 1, 60, 6));
        x.months(3);
        check.same("behind three months", Check.imageOf(x), Check.sealed(0, 3, 6, 0, 0, 0, 50, 5, 1, 60, 6));
        Check.advance(x, 300);
        check.same("in month 300", Check.imageOf(x), Check.sealed(1, 44, 6, 0, 0, 0, 50, 5, 1, 85, 6));
    }

    /** Promise 32. */
    private static void octet() {
        OpenGraves x = Check.told(PLAIN);
        due("octet(0) ahead of any", x.octet(0), NONE);
        x.image();
        x.months(3);
        due("octet(1) of the latest image", x.octet(1), 0);
        due("octet(11)", x.octet(11) >= 0, true);
        due("octet(12)", x.octet(12), NONE);
        due("octet(-1)", x.octet(-1), NONE);
        Check.put(x, "");
        x.parish();
        due("it stays over parish()", x.octet(2), 6);
        x.image();
        due("octet(3) of a short one", x.octet(3), NONE);
    }

    private static final String TWO = "grave g long 5 deep 6 due 3;grave h long 9 deep 1 due 2;"
            + "person p tall 5 age 50 will 5;person q tall 6 age 60 will 6;";

    private static boolean goesOn(OpenGraves x, int... octets) {
        Check.put(x, octets);
        boolean answer = x.on();
        due("the tape has gone", x.end(1), false);
        return answer;
    }

    /** Promise 33. */
    private static void on() {
        OpenGraves x = Check.told(TWO);
        int[] first = Check.imageOf(x);
        Check.put(x, 0, 0, 0);
        x.see();
        x.months(5);
        due("kept ahead of it", x.has(6), 1);
        due("back", goesOn(x, first), true);
        due("month", x.has(2), 0);
        due("alive", x.has(3), 2);
        due("nothing kept", x.has(6), 0);
        due("what is seen stays", x.has(7), 1);
        due("nothing to undo", x.has(8), 0);
        due("as far as it goes", goesOn(x, Check.sealed(3, 231, 9, 30, 0, 9, 30, 255, 0, 99, 9, 1, 99, 9)), true);
        check.same("all is as told", Check.imageOf(x), Check.sealed(3, 231, 9, 30, 0, 9, 30, 255, 0, 99, 9, 1, 99, 9));
        due("the grave is filled by p", x.grave(0, 3), 0);
        due("month 999", x.months(1), NONE);
        x.seed(5);
        long refusals = x.status(5);
        int[][] wrong = {
            Check.sealed(3, 232, 9, 30, 0, 9, 30, 255, 0, 99, 9, 1, 99, 9),
            Check.sealed(0, 0, 10, 30, 0, 9, 30, 255, 0, 99, 9, 1, 99, 9),
            Check.sealed(0, 0, 9, 31, 0, 9, 30, 255, 0, 99, 9, 1, 99, 9),
            Check.sealed(0, 0, 9, 30, 0, 9, 30, 255, 0, 100, 9, 1, 99, 9),
            Check.sealed(0, 0, 9, 30, 0, 9, 30, 255, 0, 99, 10, 1, 99, 9),
            Check.sealed(0, 0, 9, 30, 0, 9, 30, 255, 0, 99, 9, 2, 99, 9),
            Check.sealed(0, 0, 9, 30, 0, 9, 30, 255, 1, 99, 9, 1, 99, 9),
            Check.sealed(0, 0, 9, 30, 1, 9, 30, 255, 0, 99, 9, 0, 99, 9),
            Check.sealed(0, 0, 9, 30, 0, 9, 30, 0, 0, 99, 9, 1, 99, 9),
            Check.sealed(0, 0, 9, 30, 2, 9, 30, 255, 0, 99, 9, 1, 99, 9),
            Check.sealed(0, 0, 9, 30, 254, 9, 30, 255, 0, 99, 9, 1, 99, 9),
            Check.sealed(0, 0, 9, 30, 0, 9, 30, 255, 0, 99, 9, 1, 99),
            Check.sealed(0, 0, 9, 30, 0, 9, 30, 255, 0, 99, 9, 1, 99, 9, 0),
            Check.sealed(),
            {},
        };
        for (int k = 0; k < wrong.length; k++) {
            due("none, " + k, goesOn(x, wrong[k]), false);
            due("the month stays, " + k, x.has(2), 999);
        }
        int[] bad = first.clone();
        bad[bad.length - 1] ^= 1;
        due("the last byte", goesOn(x, bad), false);
        due("status(5)", x.status(5), refusals + wrong.length + 1);
        due("one dead in no grave, one in h", goesOn(x, Check.sealed(0, 7, 0, 0, 255, 0, 0, 1, 0, 0, 0, 0, 0, 0)), true);
        due("nobody is alive", x.has(3), 0);
        due("month 7", x.has(2), 7);
    }

    /** Promise 34. */
    private static void status() {
        OpenGraves x = Check.told(PLAIN);
        long zero = x.status(0);
        x.end(-1);
        x.parish();
        x.see();
        x.dig(9);
        x.fill(9, 9);
        x.talk(9, 9);
        x.months(0);
        x.chance(0);
        x.undo();
        x.seed(-1);
        x.on();
        long[] want = {zero + 1, 1, 3, 2, 1, 2};
        for (int what = 0; what < 6; what++) {
            due("status(" + what + ")", x.status(what), want[what]);
        }
        due("status(6)", x.status(6), NONE);
        due("status(-1)", x.status(-1), NONE);
        Check.put(x, "first");
        x.ask();
        due("ask() refuses nothing", x.status(1), 1);
        Check.put(x, "");
        x.parish();
        due("they stay over parish()", x.status(2), 3);
    }
}

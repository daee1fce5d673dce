/** A parish whose open graves must be filled: see README.md; the promises stand in the project's document. */
public final class OpenGraves {
    public static final int NONE = -1;
    public static final long NOTHING = -1000000000000000L;

    private static final int MOST_BYTES = 1600;
    private static final int MOST_GRAVES = 6;
    private static final int MOST_PEOPLE = 8;
    private static final int MOST_LETTERS = 6;
    private static final int MOST_DIGITS = 4;
    /** A word is spelt as one number: six letters of 1 .. 26, with 0 behind its last. */
    private static final int LETTER_BASE = 27;
    private static final int MOST_OPEN = 6;
    private static final int MOST_ACTS = 20;
    private static final int MOST_SEEN = 16;
    private static final int MOST_MONTHS = 100;
    private static final int MOST_FEET = 4;
    private static final int MOST_WILL = 9;
    private static final int MOST_DEEP = 9;
    private static final int MOST_DUE = 30;
    private static final int MOST_AGE = 99;
    private static final int MOST_HARM = 999;
    private static final int LAST_MONTH = 999;
    private static final int LAST_AHEAD = 60;
    private static final int LAST_SEEN = 30;
    private static final int ENEMY_MONTHS = 12;
    private static final int ASKING_DEPTH = 6;
    private static final int HUNDRED = 100;
    private static final int NOBODY = 255;

    private static final int CAME = 0;
    private static final int TAKEN_BY_GRAVE = 1;
    private static final int DIED = 2;
    private static final int PUT_THERE = 3;

    /** The language's words, each in six columns; a word's number is its row. The first 25 are the document's OWN WORDS. */
    private static final String WORDS = "grave long  deep  due   persontall  age   will  dies  comes takes heart harm  month asked taken numberalive fits  or    and   not   all   min   max   first last  often total most  least ";
    private static final int WORD_COUNT = 31;
    private static final int GRAVE = 0;
    private static final int LONG = 1;
    private static final int DEEP = 2;
    private static final int DUE = 3;
    private static final int PERSON = 4;
    private static final int TALL = 5;
    private static final int AGE = 6;
    private static final int WILL = 7;
    private static final int DIES = 8;
    private static final int COMES = 9;
    private static final int TAKES = 10;
    private static final int HEART = 11;
    private static final int HARM = 12;
    private static final int MONTH = 13;
    private static final int ASKED = 14;
    private static final int TAKEN = 15;
    private static final int NUMBER = 16;
    private static final int ALIVE = 17;
    private static final int FITS = 18;
    private static final int OR = 19;
    private static final int AND = 20;
    private static final int NOT = 21;
    private static final int ALL = 22;
    private static final int MIN = 23;
    private static final int MAX = 24;
    private static final int FIRST = 25;
    private static final int LAST = 26;
    private static final int OFTEN = 27;
    private static final int TOTAL = 28;
    private static final int MOST = 29;
    private static final int LEAST = 30;

    private final Tape tape;
    private final Tokens tokens;
    private final Grammar grammar;
    private final Reckoner reckoner;
    private final Almanac almanac;
    private final Outlook outlook;
    private final Rows rows;
    private final Past past;
    private final Yard now;
    private final int[] refused;
    private final int[] picture;
    private int pictureSize;
    private int luck;
    private int faultKind;
    private int faultPlace;
    /** The parish that is told, and a spare one: a text with a fault must leave the told one as it is. */
    private Parish told;
    private Parish draft;

    public OpenGraves() {
        told = new Parish();
        draft = new Parish();
        tape = new Tape();
        tokens = new Tokens(tape);
        grammar = new Grammar(tokens, draft.rules);
        reckoner = new Reckoner();
        almanac = new Almanac(reckoner);
        outlook = new Outlook(almanac, reckoner);
        rows = new Rows();
        past = new Past();
        now = new Yard();
        refused = new int[6];
        picture = new int[3 + 3 * MOST_GRAVES + 3 * MOST_PEOPLE];
        luck = 1;
        faultPlace = NONE;
    }

    // ---- the tape and the parish

    public int feed(int a, int b, int c, int d, int e) {
        if (tape.size + 20 > MOST_BYTES) {
            return refuse(0);
        }
        tape.add(a);
        tape.add(b);
        tape.add(c);
        tape.add(d);
        tape.add(e);
        return tape.size;
    }

    public boolean end(int n) {
        if (n < 0 || n > tape.size) {
            refuse(0);
            return false;
        }
        tape.size = n;
        return true;
    }

    public int parish() {
        int statements = draft.read(tokens, grammar);
        keepFault();
        tape.size = 0;
        if (statements == NONE) {
            return refuse(1);
        }
        Parish former = told;
        told = draft;
        draft = former;
        now.become(told.beginning);
        past.forget();
        outlook.seenRows = 0;
        return statements;
    }

    public int fault(int what) {
        switch (what) {
            case 0: return faultKind;
            case 1: return faultPlace;
            default: return NONE;
        }
    }

    public int has(int what) {
        switch (what) {
            case 0: return now.graves;
            case 1: return now.people;
            case 2: return now.month;
            case 3: return now.countAlive();
            case 4: return now.countAsking();
            case 5: return now.countFilled();
            case 6: return now.keptRows;
            case 7: return outlook.seenRows;
            case 8: return past.count;
            default: return NONE;
        }
    }

    public int letter(int kind, int which, int k) {
        if (k < 0 || k >= MOST_LETTERS) {
            return NONE;
        }
        if (kind == 0 && now.isGrave(which)) {
            return told.letterOf(which, k);
        }
        if (kind == 1 && now.isPerson(which)) {
            return told.letterOf(MOST_GRAVES + which, k);
        }
        return NONE;
    }

    public int grave(int grave, int what) {
        if (!now.isGrave(grave)) {
            return NONE;
        }
        switch (what) {
            case 0: return now.length[grave];
            case 1: return now.deep[grave];
            case 2: return now.due[grave];
            case 3: return now.who[grave];
            case 4: return now.asks(grave) ? 1 : 0;
            default: return NONE;
        }
    }

    public int person(int person, int what) {
        if (!now.isPerson(person)) {
            return NONE;
        }
        switch (what) {
            case 0: return now.tall[person];
            case 1: return now.age[person];
            case 2: return now.will[person];
            case 3: return now.alive[person];
            default: return NONE;
        }
    }

    public long counts(int person, int what) {
        if (!now.isPerson(person)) {
            return NOTHING;
        }
        switch (what) {
            case 0: return dyingOf(person);
            case 1: return reckoner.value(told.rules, TAKES, now, person, 0);
            case 2: return harmOf(person);
            default: return NOTHING;
        }
    }

    public int next(int person) {
        return now.lives(person) ? now.nextGrave(person) : NONE;
    }

    public int kept(int k, int what) {
        if (k < 0 || k >= now.keptRows || what < 0 || what > 3) {
            return NONE;
        }
        return now.keptCell(k, what);
    }

    // ---- ahead

    public int later(int grave, int n) {
        if (!now.isGrave(grave) || !comesAhead(n)) {
            return NONE;
        }
        outlook.takenIn(told.rules, now, n);
        return outlook.trial.who[grave];
    }

    public int filled(int grave) {
        if (!now.isGrave(grave)) {
            return NONE;
        }
        return outlook.filledBehind(told.rules, now, grave);
    }

    public int taken(int n) {
        return comesAhead(n) ? outlook.takenIn(told.rules, now, n) : NONE;
    }

    // ---- rows, persuading, enemies, odds

    public int row(int what) {
        if (what < 0 || what >= 2 + now.graves) {
            return NONE;
        }
        for (int p = 0; p < now.people; p++) {
            rows.harm[p] = harmOf(p);
        }
        rows.choose(now);
        switch (what) {
            case 0: return rows.countFilled(now);
            case 1: return rows.wholeHarm(now);
            default: return rows.chosen[what - 2];
        }
    }

    public int persuade(int person) {
        return now.lives(person) ? outlook.leastWill(told.rules, now, person) : NONE;
    }

    public int enemy(int n, int k) {
        if (n < 1 || n > MOST_FEET || k < NONE || k >= n || now.month + ENEMY_MONTHS > LAST_MONTH) {
            return NONE;
        }
        int most = outlook.mostTaken(told.rules, now, n);
        if (most == NONE || k == NONE) {
            return most;
        }
        return outlook.worst[k];
    }

    public long odds(int grave) {
        if (now.month >= LAST_MONTH || (grave != NONE && !now.isGrave(grave))) {
            return NOTHING;
        }
        return outlook.drawsThatFill(told.rules, now, grave);
    }

    // ---- how willing one was

    public int see() {
        int count = tape.size / 3;
        boolean good = count >= 1 && count <= MOST_SEEN && tape.size % 3 == 0;
        for (int k = 0; good && k < count; k++) {
            good = tape.at(3 * k) <= LAST_SEEN && now.isGrave(tape.at(3 * k + 1)) && tape.at(3 * k + 2) <= 1;
        }
        if (good) {
            System.arraycopy(tape.bytes, 0, outlook.seen, 0, 3 * count);
            outlook.seenRows = count;
        }
        tape.size = 0;
        return good ? count : refuse(1);
    }

    public int wills(int person) {
        return now.lives(person) ? outlook.willsOf(told.rules, now, person) : NONE;
    }

    public int tells(int person, int what) {
        if (!now.lives(person) || what < 0 || what > 2 || now.graves == 0 || now.month >= LAST_MONTH) {
            return NONE;
        }
        int bits = outlook.willsOf(told.rules, now, person);
        if (bits == 0) {
            return NONE;
        }
        outlook.countFillings(told.rules, now, person, bits);
        int cell = outlook.tellingCell(now, Integer.bitCount(bits));
        switch (what) {
            case 0: return cell / MOST_GRAVES + 1;
            case 1: return cell % MOST_GRAVES;
            default: return outlook.mostLeft(cell, Integer.bitCount(bits));
        }
    }

    // ---- acts

    public int dig(int grave) {
        if (!now.isGrave(grave) || !now.canBeDug(grave)) {
            return refuse(2);
        }
        past.keep(now);
        now.deep[grave]++;
        return now.deep[grave];
    }

    public boolean fill(int grave, int person) {
        if (!now.isGrave(grave) || !now.lives(person) || now.isFilled(grave) || !now.fits(person, grave)) {
            refuse(2);
            return false;
        }
        past.keep(now);
        now.bury(person, grave, PUT_THERE);
        return true;
    }

    public boolean talk(int person, int will) {
        if (!now.lives(person) || will < 0 || will > MOST_WILL || now.will[person] == will) {
            refuse(2);
            return false;
        }
        past.keep(now);
        now.will[person] = will;
        return true;
    }

    public int months(int n) {
        if (!canPass(n)) {
            return refuse(3);
        }
        past.keep(now);
        int takenInAll = 0;
        for (int m = 0; m < n; m++) {
            takenInAll += almanac.pass(told.rules, now);
        }
        return takenInAll;
    }

    public int chance(int n) {
        if (!canPass(n)) {
            return refuse(3);
        }
        past.keep(now);
        int died = 0;
        for (int m = 0; m < n; m++) {
            died += drawDeaths();
            almanac.pass(told.rules, now);
        }
        return died;
    }

    public boolean undo() {
        if (past.count == 0) {
            refuse(4);
            return false;
        }
        past.restore(now);
        return true;
    }

    public boolean seed(int seed) {
        if (seed < 0) {
            refuse(5);
            return false;
        }
        luck = seed;
        return true;
    }

    // ---- questions

    public long ask() {
        // the spare parish is free between two calls of parish(), so its room serves the question
        Script question = draft.rules;
        int kind = grammar.readQuestion(question);
        keepFault();
        tape.size = 0;
        if (kind == NONE) {
            return NOTHING;
        }
        long answer = kind == FIRST || kind == LAST ? NONE : 0;
        for (int p = 0; p < now.people; p++) {
            answer = joined(kind, answer, reckoner.value(question, Script.QUESTION, now, p, 0), p);
        }
        return answer;
    }

    // ---- images, refusals

    public int image() {
        pictureSize = 0;
        write(now.month / 256);
        write(now.month % 256);
        for (int g = 0; g < now.graves; g++) {
            write(now.deep[g]);
            write(now.due[g]);
            write(now.isFilled(g) ? now.who[g] : NOBODY);
        }
        for (int p = 0; p < now.people; p++) {
            write(now.alive[p]);
            write(now.age[p]);
            write(now.will[p]);
        }
        write(mixed(picture, pictureSize));
        return pictureSize;
    }

    public int octet(int k) {
        return k >= 0 && k < pictureSize ? picture[k] : NONE;
    }

    public boolean on() {
        Yard shown = outlook.trial;
        boolean good = isImage() && readImage(shown);
        tape.size = 0;
        if (!good) {
            refuse(5);
            return false;
        }
        now.become(shown);
        past.forget();
        return true;
    }

    public int status(int what) {
        return what >= 0 && what < refused.length ? refused[what] : NONE;
    }

    // ---- what several calls need

    private int refuse(int kind) {
        if (kind >= 0 && kind < refused.length) {
            refused[kind]++;
        }
        return NONE;
    }

    private void keepFault() {
        faultKind = tokens.faultKind;
        faultPlace = tokens.faultPlace;
    }

    private static int cut(int value, int most) {
        return Math.max(0, Math.min(most, value));
    }

    private int dyingOf(int person) {
        return cut(reckoner.value(told.rules, DIES, now, person, 0), HUNDRED);
    }

    private int harmOf(int person) {
        return cut(reckoner.value(told.rules, HARM, now, person, 0), MOST_HARM);
    }

    private boolean comesAhead(int n) {
        return n >= 0 && n <= LAST_AHEAD && now.month + n <= LAST_MONTH;
    }

    private boolean canPass(int n) {
        return n >= 1 && n <= MOST_MONTHS && now.month + n <= LAST_MONTH;
    }

    private int drawDeaths() {
        int died = 0;
        for (int p = 0; p < now.people; p++) {
            if (now.lives(p) && drawOfHundred() < dyingOf(p)) {
                now.bury(p, now.nextGrave(p), DIED);
                died++;
            }
        }
        return died;
    }

    private int drawOfHundred() {
        luck = (int) ((1103515245L * luck + 12345L) & 0x7fffffffL);
        return luck / 64 % HUNDRED;
    }

    private static long joined(int kind, long answer, int value, int person) {
        switch (kind) {
            case FIRST: return answer == NONE && value != 0 ? person : answer;
            case LAST: return value != 0 ? person : answer;
            case MOST: return person == 0 ? value : Math.max(answer, value);
            case LEAST: return person == 0 ? value : Math.min(answer, value);
            default: return answer + value;
        }
    }

    private void write(int octet) {
        if (pictureSize < picture.length) {
            picture[pictureSize] = octet;
            pictureSize++;
        }
    }

    private static int mixed(int[] octets, int size) {
        int sum = 241;
        for (int k = 0; k < size && k < octets.length; k++) {
            sum = (3 * sum + octets[k]) % 251;
        }
        return sum;
    }

    private boolean isImage() {
        int size = 3 + 3 * now.graves + 3 * now.people;
        return tape.size == size && tape.at(size - 1) == mixed(tape.bytes, size - 1);
    }

    private boolean readImage(Yard shown) {
        shown.become(now);
        shown.keptRows = 0;
        shown.month = 256 * tape.at(0) + tape.at(1);
        int at = 2;
        for (int g = 0; g < shown.graves; g++) {
            shown.deep[g] = tape.at(at);
            shown.due[g] = tape.at(at + 1);
            int inside = tape.at(at + 2);
            shown.who[g] = inside == NOBODY ? NONE : inside;
            at += 3;
        }
        for (int p = 0; p < shown.people; p++) {
            shown.alive[p] = tape.at(at);
            shown.age[p] = tape.at(at + 1);
            shown.will[p] = tape.at(at + 2);
            at += 3;
        }
        return shown.isSound();
    }

    /** The bytes that were fed. */
    private static final class Tape {
        private final int[] bytes;
        private int size;

        Tape() {
            bytes = new int[MOST_BYTES];
        }

        void add(int number) {
            for (int shift = 24; shift >= 0 && size < bytes.length; shift -= 8) {
                bytes[size] = (number >>> shift) & 255;
                size++;
            }
        }

        /** Byte k; NONE behind the last, which is no letter, no digit and no sign. */
        int at(int k) {
            return k >= 0 && k < size && k < bytes.length ? bytes[k] : NONE;
        }
    }

    /** Graves and people as they are at one time, with what is kept until then. */
    private static final class Yard {
        private static final int KEPT_CELLS = 4;
        private int graves;
        private int people;
        private int month;
        private int keptRows;
        private final int[] length;
        private final int[] deep;
        private final int[] due;
        private final int[] who;
        private final int[] tall;
        private final int[] age;
        private final int[] will;
        private final int[] alive;
        private final int[] kept;

        Yard() {
            length = new int[MOST_GRAVES];
            deep = new int[MOST_GRAVES];
            due = new int[MOST_GRAVES];
            who = new int[MOST_GRAVES];
            tall = new int[MOST_PEOPLE];
            age = new int[MOST_PEOPLE];
            will = new int[MOST_PEOPLE];
            alive = new int[MOST_PEOPLE];
            // nobody is buried twice before parish() or on() empties what is kept,
            // so the 40 that the document tells are never reached
            kept = new int[KEPT_CELLS * MOST_PEOPLE];
        }

        void clear() {
            graves = 0;
            people = 0;
            month = 0;
            keptRows = 0;
        }

        void become(Yard other) {
            graves = other.graves;
            people = other.people;
            month = other.month;
            keptRows = other.keptRows;
            System.arraycopy(other.length, 0, length, 0, MOST_GRAVES);
            System.arraycopy(other.deep, 0, deep, 0, MOST_GRAVES);
            System.arraycopy(other.due, 0, due, 0, MOST_GRAVES);
            System.arraycopy(other.who, 0, who, 0, MOST_GRAVES);
            System.arraycopy(other.tall, 0, tall, 0, MOST_PEOPLE);
            System.arraycopy(other.age, 0, age, 0, MOST_PEOPLE);
            System.arraycopy(other.will, 0, will, 0, MOST_PEOPLE);
            System.arraycopy(other.alive, 0, alive, 0, MOST_PEOPLE);
            System.arraycopy(other.kept, 0, kept, 0, KEPT_CELLS * MOST_PEOPLE);
        }

        boolean isGrave(int grave) {
            return grave >= 0 && grave < graves;
        }

        boolean isPerson(int person) {
            return person >= 0 && person < people;
        }

        boolean lives(int person) {
            return isPerson(person) && alive[person] == 1;
        }

        boolean isFilled(int grave) {
            return who[grave] != NONE;
        }

        boolean asks(int grave) {
            return deep[grave] >= ASKING_DEPTH && who[grave] == NONE;
        }

        boolean fits(int person, int grave) {
            return tall[person] <= length[grave];
        }

        boolean canBeDug(int grave) {
            return who[grave] == NONE && deep[grave] < MOST_DEEP;
        }

        int countAlive() {
            int count = 0;
            for (int p = 0; p < people; p++) {
                count += alive[p];
            }
            return count;
        }

        int countAsking() {
            int count = 0;
            for (int g = 0; g < graves; g++) {
                if (asks(g)) {
                    count++;
                }
            }
            return count;
        }

        int countFilled() {
            int count = 0;
            for (int g = 0; g < graves; g++) {
                if (isFilled(g)) {
                    count++;
                }
            }
            return count;
        }

        int nextGrave(int person) {
            int found = NONE;
            for (int g = 0; g < graves; g++) {
                if (asks(g) && fits(person, g) && (found == NONE || due[g] < due[found])) {
                    found = g;
                }
            }
            return found;
        }

        /** One leaves the living, for a grave or (NONE) the churchyard. */
        void bury(int person, int grave, int how) {
            alive[person] = 0;
            if (isGrave(grave)) {
                who[grave] = person;
            }
            if (keptRows < MOST_PEOPLE) {
                int at = KEPT_CELLS * keptRows;
                kept[at] = month;
                kept[at + 1] = person;
                kept[at + 2] = grave;
                kept[at + 3] = how;
                keptRows++;
            }
        }

        int keptCell(int row, int what) {
            int at = KEPT_CELLS * row + what;
            return at >= 0 && at < kept.length ? kept[at] : NONE;
        }

        /** Whether numbers from outside are such as months and acts could leave. */
        boolean isSound() {
            boolean sound = month <= LAST_MONTH;
            for (int p = 0; sound && p < people; p++) {
                sound = alive[p] <= 1 && age[p] <= MOST_AGE && will[p] <= MOST_WILL;
            }
            for (int g = 0; sound && g < graves; g++) {
                sound = deep[g] <= MOST_DEEP && due[g] <= MOST_DUE && isSoundInside(g);
            }
            return sound;
        }

        private boolean isSoundInside(int grave) {
            int person = who[grave];
            if (person == NONE) {
                return true;
            }
            if (!isPerson(person) || lives(person) || !fits(person, grave)) {
                return false;
            }
            for (int g = 0; g < grave; g++) {
                if (who[g] == person) {
                    return false;
                }
            }
            return true;
        }
    }

    /**
     * Sums and tests, each part behind those that it joins. A number stands as itself, what is done as -1 less its
     * number: the word's number or the sign's byte, which are never alike.
     */
    private static final class Script {
        private static final int QUESTION = HARM + 1;
        private static final int SPARE = 20;
        private final int[] cells;
        private final int[] from;
        private final int[] to;
        private int size;

        Script() {
            cells = new int[MOST_BYTES + SPARE];
            from = new int[QUESTION + 1];
            to = new int[QUESTION + 1];
        }

        void clear() {
            size = 0;
            for (int rule = 0; rule <= QUESTION; rule++) {
                from[rule] = 0;
                to[rule] = 0;
            }
        }

        boolean holds(int rule) {
            return from[rule] < to[rule];
        }

        void begin(int rule) {
            from[rule] = size;
        }

        void finish(int rule) {
            to[rule] = size;
        }

        void addNumber(int number) {
            if (size < cells.length) {
                cells[size] = number;
                size++;
            }
        }

        void addDeed(int deed) {
            addNumber(-1 - deed);
        }
    }

    /** The words, numbers and signs of the tape, one at a time, and the first fault among them. */
    private static final class Tokens {
        private static final int END = 0;
        private static final int IS_WORD = 1;
        private static final int IS_NUMBER = 2;
        private static final int IS_SIGN = 3;
        private static final int WRONG = 4;
        private final Tape tape;
        private int at;
        private int kind;
        private int start;
        private int size;
        private int value;
        private int spelling;
        private int faultKind;
        private int faultPlace;
        private final int[] spellings;

        Tokens(Tape tape) {
            this.tape = tape;
            faultPlace = NONE;
            spellings = new int[WORD_COUNT];
            for (int at = 0; at < WORDS.length() && at < MOST_LETTERS * WORD_COUNT; at++) {
                int sign = WORDS.charAt(at);
                int word = at / MOST_LETTERS;
                spellings[word] = LETTER_BASE * spellings[word] + (sign == ' ' ? 0 : sign - 'a' + 1);
            }
        }

        void begin() {
            at = 0;
            faultKind = 0;
            faultPlace = NONE;
            step();
        }

        /** Behind a fault nothing comes any more, so that all that reads ends by itself. */
        void step() {
            if (faultKind != 0) {
                return;
            }
            while (at < tape.size && isBlank(tape.at(at))) {
                at++;
            }
            start = at;
            int sign = tape.at(at);
            if (sign == NONE) {
                kind = END;
            } else if (isLetter(sign)) {
                readWord();
            } else if (isDigit(sign)) {
                readNumber();
            } else {
                kind = IS_SIGN;
                value = sign;
                at++;
            }
        }

        private void readWord() {
            spelling = 0;
            while (at < tape.size && isLetter(tape.at(at))) {
                if (at - start < MOST_LETTERS) {
                    spelling = LETTER_BASE * spelling + tape.at(at) - 'a' + 1;
                }
                at++;
            }
            size = at - start;
            for (int k = size; k < MOST_LETTERS; k++) {
                spelling *= LETTER_BASE;
            }
            value = size <= MOST_LETTERS ? wordNumber() : NONE;
            kind = isDigit(tape.at(start - 1)) ? WRONG : IS_WORD;
        }

        private void readNumber() {
            value = 0;
            while (at < tape.size && isDigit(tape.at(at))) {
                if (at - start < MOST_DIGITS) {
                    value = 10 * value + tape.at(at) - '0';
                }
                at++;
            }
            size = at - start;
            kind = isLetter(tape.at(start - 1)) ? WRONG : IS_NUMBER;
        }

        private int wordNumber() {
            for (int word = 0; word < WORD_COUNT; word++) {
                if (spellings[word] == spelling) {
                    return word;
                }
            }
            return NONE;
        }

        private static boolean isBlank(int sign) {
            return sign == 10 || sign == 32;
        }

        private static boolean isLetter(int sign) {
            return sign >= 'a' && sign <= 'z';
        }

        private static boolean isDigit(int sign) {
            return sign >= '0' && sign <= '9';
        }

        void fail(int fault) {
            failAt(fault, start);
        }

        void failAt(int fault, int place) {
            if (faultKind == 0) {
                faultKind = fault;
                faultPlace = place;
                kind = WRONG;
            }
        }

        boolean goesOn() {
            return faultKind == 0 && kind != END;
        }

        boolean isNumber() {
            return kind == IS_NUMBER;
        }

        boolean isSign(int sign) {
            return kind == IS_SIGN && value == sign;
        }

        boolean isWord(int word) {
            return kind == IS_WORD && value == word;
        }

        /** The word's number; NONE of others, and where no word is. */
        int word() {
            return kind == IS_WORD ? value : NONE;
        }

        /** A word that is no OWN WORD, however long. */
        boolean isName() {
            return kind == IS_WORD && (value == NONE || value >= FIRST);
        }

        void takeWord(int word) {
            if (isWord(word)) {
                step();
            } else {
                fail(1);
            }
        }

        void takeSign(int sign) {
            if (isSign(sign)) {
                step();
            } else {
                fail(1);
            }
        }

        int takeNumber(int least, int most) {
            int number = value;
            if (kind != IS_NUMBER) {
                fail(1);
            } else if (size > MOST_DIGITS) {
                failAt(1, start + MOST_DIGITS);
            } else if (number < least || number > most) {
                fail(2);
            } else {
                step();
                return number;
            }
            return least;
        }
    }

    /** Tests, sums and questions, from tokens into a script. */
    private static final class Grammar {
        private final Tokens tokens;
        private Script script;
        private int purpose;

        Grammar(Tokens tokens, Script script) {
            this.tokens = tokens;
            this.script = script;
        }

        /** The question's first word; NONE with a fault. */
        int readQuestion(Script into) {
            into.clear();
            tokens.begin();
            int kind = tokens.word();
            if (kind < FIRST) {
                tokens.fail(1);
                return NONE;
            }
            tokens.step();
            readRule(into, Script.QUESTION, kind == FIRST || kind == LAST || kind == OFTEN);
            if (tokens.goesOn()) {
                tokens.fail(1);
            }
            return tokens.faultKind == 0 ? kind : NONE;
        }

        void readRule(Script into, int rule, boolean isTest) {
            script = into;
            purpose = rule;
            into.begin(rule);
            if (isTest) {
                test(0);
            } else {
                sum(0);
            }
            into.finish(rule);
        }

        private void test(int open) {
            both(open);
            for (int n = 0; n < MOST_BYTES && tokens.isWord(OR); n++) {
                tokens.step();
                both(open);
                script.addDeed(OR);
            }
        }

        private void both(int open) {
            fact(open);
            for (int n = 0; n < MOST_BYTES && tokens.isWord(AND); n++) {
                tokens.step();
                fact(open);
                script.addDeed(AND);
            }
        }

        private void fact(int open) {
            if (tokens.isWord(NOT)) {
                if (opens(open)) {
                    fact(open + 1);
                    script.addDeed(NOT);
                }
            } else if (tokens.isSign('[')) {
                if (opens(open)) {
                    test(open + 1);
                    tokens.takeSign(']');
                }
            } else if (tokens.isWord(ALL)) {
                tokens.step();
                script.addNumber(1);
            } else {
                comparison(open);
            }
        }

        private void comparison(int open) {
            sum(open);
            if (tokens.isSign('<') || tokens.isSign('>') || tokens.isSign('=')) {
                int sign = tokens.value;
                tokens.step();
                sum(open);
                script.addDeed(sign);
            } else {
                tokens.fail(1);
            }
        }

        private void sum(int open) {
            product(open);
            for (int n = 0; n < MOST_BYTES && (tokens.isSign('+') || tokens.isSign('-')); n++) {
                int sign = tokens.value;
                tokens.step();
                product(open);
                script.addDeed(sign);
            }
        }

        private void product(int open) {
            part(open);
            for (int n = 0; n < MOST_BYTES && (tokens.isSign('*') || tokens.isSign('/')); n++) {
                int sign = tokens.value;
                tokens.step();
                part(open);
                script.addDeed(sign);
            }
        }

        private void part(int open) {
            int word = tokens.word();
            if (tokens.isNumber()) {
                script.addNumber(tokens.takeNumber(0, 9999));
            } else if (tokens.isSign('(')) {
                if (opens(open)) {
                    sum(open + 1);
                    tokens.takeSign(')');
                }
            } else if (word == MIN || word == MAX) {
                tokens.step();
                pair(open, word);
            } else if ((word == FITS || word == DUE) && purpose == Script.QUESTION) {
                if (opens(open)) {
                    part(open + 1);
                    script.addDeed(word);
                }
            } else if (isKnown(word)) {
                tokens.step();
                script.addDeed(word);
            } else {
                tokens.fail(1);
            }
        }

        private void pair(int open, int word) {
            if (!tokens.isSign('(')) {
                tokens.fail(1);
            } else if (opens(open)) {
                sum(open + 1);
                tokens.takeSign(',');
                sum(open + 1);
                tokens.takeSign(')');
                script.addDeed(word);
            }
        }

        /** Goes behind a token that stays open, if not too many are open already. */
        private boolean opens(int open) {
            if (open >= MOST_OPEN) {
                tokens.fail(4);
                return false;
            }
            tokens.step();
            return true;
        }

        private boolean isKnown(int word) {
            switch (word) {
                case AGE:
                case TALL:
                case WILL:
                case MONTH:
                    return true;
                case ASKED:
                    return purpose == COMES;
                case TAKEN:
                    return purpose == HEART;
                case NUMBER:
                case ALIVE:
                    return purpose == Script.QUESTION;
                default:
                    return false;
            }
        }
    }

    /** What a text tells: graves and people as they are at first, their names, the rules. */
    private static final class Parish {
        private final Yard beginning;
        private final Script rules;
        /** Spellings: first the graves' names, behind room for all of these the people's. */
        private final int[] names;

        Parish() {
            beginning = new Yard();
            rules = new Script();
            names = new int[MOST_GRAVES + MOST_PEOPLE];
        }

        int letterOf(int name, int k) {
            int rest = names[name];
            for (int behind = MOST_LETTERS - 1; behind > k; behind--) {
                rest /= LETTER_BASE;
            }
            return rest % LETTER_BASE;
        }

        /** How many statements; NONE with a fault, which the tokens keep. */
        int read(Tokens tokens, Grammar grammar) {
            beginning.clear();
            rules.clear();
            tokens.begin();
            int statements = 0;
            while (statements < MOST_BYTES && tokens.goesOn()) {
                readStatement(tokens, grammar);
                tokens.takeSign(';');
                statements++;
            }
            addMissingRules();
            return tokens.faultKind == 0 ? statements : NONE;
        }

        private void readStatement(Tokens tokens, Grammar grammar) {
            int word = tokens.word();
            if (word != GRAVE && word != PERSON && (word < DIES || word > HARM)) {
                tokens.fail(1);
            } else if (isOneTooMany(word)) {
                tokens.fail(5);
            } else {
                tokens.step();
                if (word == GRAVE) {
                    readGrave(tokens, beginning.graves);
                } else if (word == PERSON) {
                    readPerson(tokens, beginning.people);
                } else {
                    grammar.readRule(rules, word, word == COMES);
                }
            }
        }

        private boolean isOneTooMany(int word) {
            switch (word) {
                case GRAVE: return beginning.graves >= MOST_GRAVES;
                case PERSON: return beginning.people >= MOST_PEOPLE;
                default: return rules.holds(word);
            }
        }

        private void readGrave(Tokens tokens, int grave) {
            readName(tokens, grave);
            tokens.takeWord(LONG);
            beginning.length[grave] = tokens.takeNumber(1, 9);
            tokens.takeWord(DEEP);
            beginning.deep[grave] = tokens.takeNumber(0, MOST_DEEP);
            tokens.takeWord(DUE);
            beginning.due[grave] = tokens.takeNumber(1, MOST_DUE);
            beginning.who[grave] = NONE;
            beginning.graves++;
        }

        private void readPerson(Tokens tokens, int person) {
            readName(tokens, MOST_GRAVES + person);
            tokens.takeWord(TALL);
            beginning.tall[person] = tokens.takeNumber(1, 9);
            tokens.takeWord(AGE);
            beginning.age[person] = tokens.takeNumber(0, MOST_AGE);
            tokens.takeWord(WILL);
            beginning.will[person] = tokens.takeNumber(0, MOST_WILL);
            beginning.alive[person] = 1;
            beginning.people++;
        }

        private void readName(Tokens tokens, int name) {
            if (!tokens.isName()) {
                tokens.fail(1);
            } else if (tokens.size > MOST_LETTERS) {
                tokens.failAt(1, tokens.start + MOST_LETTERS);
            } else if (isThere(tokens.spelling)) {
                tokens.fail(3);
            } else {
                names[name] = tokens.spelling;
                tokens.step();
            }
        }

        private boolean isThere(int spelling) {
            boolean found = false;
            for (int g = 0; g < beginning.graves && !found; g++) {
                found = names[g] == spelling;
            }
            for (int p = 0; p < beginning.people && !found; p++) {
                found = names[MOST_GRAVES + p] == spelling;
            }
            return found;
        }

        private void addMissingRules() {
            for (int rule = DIES; rule <= HARM; rule++) {
                if (!rules.holds(rule)) {
                    rules.begin(rule);
                    addUsualRule(rule);
                    rules.finish(rule);
                }
            }
        }

        private void addUsualRule(int rule) {
            switch (rule) {
                case DIES:
                    addJoined(-1 - AGE, 10, '/');
                    break;
                case COMES:
                    addJoined(-1 - WILL, 8, '>');
                    break;
                case HARM:
                    addJoined(9, -1 - WILL, '-');
                    break;
                default:
                    rules.addDeed(rule == TAKES ? AGE : WILL);
                    break;
            }
        }

        private void addJoined(int left, int right, int sign) {
            rules.addNumber(left);
            rules.addNumber(right);
            rules.addDeed(sign);
        }
    }

    /** Works out a script for one person. */
    private static final class Reckoner {
        private static final long MOST_VALUE = 1000000L;
        /** Six that are open hold no more than 24 values at once. */
        private static final int ROOM = 64;
        private final int[] pile;

        Reckoner() {
            pile = new int[ROOM];
        }

        /** The count is how many graves ask (in comes), how many were taken (in heart). */
        int value(Script script, int rule, Yard yard, int person, int count) {
            int top = 0;
            int behind = Math.min(script.to[rule], script.cells.length);
            for (int i = script.from[rule]; i < behind; i++) {
                int cell = script.cells[i];
                int deed = -1 - cell;
                if (cell >= 0 || isPlain(deed)) {
                    if (top < ROOM) {
                        pile[top] = cell >= 0 ? cell : plain(deed, yard, person, count);
                        top++;
                    }
                } else if (deed == NOT || deed == FITS || deed == DUE) {
                    if (top >= 1) {
                        pile[top - 1] = single(deed, pile[top - 1], yard, person);
                    }
                } else if (top >= 2) {
                    top--;
                    pile[top - 1] = (int) Math.max(-MOST_VALUE, Math.min(MOST_VALUE, joint(deed, pile[top - 1], pile[top])));
                }
            }
            return top > 0 ? pile[0] : 0;
        }

        private static boolean isPlain(int deed) {
            return (deed >= TALL && deed <= WILL) || (deed >= MONTH && deed <= ALIVE);
        }

        private static int plain(int deed, Yard yard, int person, int count) {
            switch (deed) {
                case AGE: return yard.age[person];
                case TALL: return yard.tall[person];
                case WILL: return yard.will[person];
                case MONTH: return yard.month;
                case NUMBER: return person;
                case ALIVE: return yard.alive[person];
                default: return count;
            }
        }

        private static int single(int deed, int value, Yard yard, int person) {
            if (deed == NOT) {
                return 1 - value;
            }
            if (value < 0 || value >= yard.graves) {
                return 0;
            }
            if (deed == DUE) {
                return yard.due[value];
            }
            return yard.tall[person] <= yard.length[value] ? 1 : 0;
        }

        private static long joint(int deed, int left, int right) {
            switch (deed) {
                case '+': return (long) left + right;
                case '-': return (long) left - right;
                case '*': return (long) left * right;
                case '/': return right == 0 ? 0 : Math.floorDiv(left, right);
                case '<': return left < right ? 1 : 0;
                case '>': return left > right ? 1 : 0;
                case '=': return left == right ? 1 : 0;
                case MIN:
                case AND:
                    return Math.min(left, right);
                default:
                    return Math.max(left, right);
            }
        }
    }

    /** Months as they come. */
    private static final class Almanac {
        private final Reckoner reckoner;
        private final int[] weight;

        Almanac(Reckoner reckoner) {
            this.reckoner = reckoner;
            weight = new int[MOST_PEOPLE];
        }

        /** A month without draws: how many were taken. */
        int pass(Script rules, Yard yard) {
            comeForward(rules, yard);
            int takenNow = 0;
            if (comeNearer(yard)) {
                // nothing that the sum of takes looks at changes while graves take, so once a month will do
                weigh(rules, yard);
                takenNow = takeDue(yard);
            }
            changeHearts(rules, yard, takenNow);
            if (yard.month % 12 == 11) {
                growOlder(yard);
            }
            yard.month = Math.min(LAST_MONTH, yard.month + 1);
            return takenNow;
        }

        private void comeForward(Script rules, Yard yard) {
            for (int p = 0; p < yard.people; p++) {
                if (yard.lives(p) && reckoner.value(rules, COMES, yard, p, yard.countAsking()) != 0) {
                    int grave = yard.nextGrave(p);
                    if (grave != NONE) {
                        yard.bury(p, grave, CAME);
                    }
                }
            }
        }

        /** Graves that ask are due a month sooner: whether one is due now. */
        private static boolean comeNearer(Yard yard) {
            boolean anyDue = false;
            for (int g = 0; g < yard.graves; g++) {
                if (yard.asks(g)) {
                    yard.due[g] = Math.max(0, yard.due[g] - 1);
                    anyDue = anyDue || yard.due[g] == 0;
                }
            }
            return anyDue;
        }

        private int takeDue(Yard yard) {
            int takenNow = 0;
            for (int g = 0; g < yard.graves; g++) {
                int person = yard.asks(g) && yard.due[g] == 0 ? heaviest(yard, g) : NONE;
                if (person != NONE) {
                    yard.bury(person, g, TAKEN_BY_GRAVE);
                    takenNow++;
                }
            }
            return takenNow;
        }

        private void weigh(Script rules, Yard yard) {
            for (int p = 0; p < yard.people; p++) {
                if (yard.lives(p)) {
                    weight[p] = reckoner.value(rules, TAKES, yard, p, 0);
                }
            }
        }

        private int heaviest(Yard yard, int grave) {
            int found = NONE;
            for (int p = 0; p < yard.people; p++) {
                if (yard.lives(p) && yard.fits(p, grave) && (found == NONE || weight[p] > weight[found])) {
                    found = p;
                }
            }
            return found;
        }

        private void changeHearts(Script rules, Yard yard, int takenNow) {
            for (int p = 0; p < yard.people; p++) {
                if (yard.lives(p)) {
                    yard.will[p] = cut(reckoner.value(rules, HEART, yard, p, takenNow), MOST_WILL);
                }
            }
        }

        private static void growOlder(Yard yard) {
            for (int p = 0; p < yard.people; p++) {
                if (yard.lives(p)) {
                    yard.age[p] = Math.min(MOST_AGE, yard.age[p] + 1);
                }
            }
        }
    }

    /** What would be, tried on a yard of its own. */
    private static final class Outlook {
        /** Rising rows of four out of six graves are 126. */
        private static final int MOST_TRIES = 126;
        private final Almanac almanac;
        private final Reckoner reckoner;
        private final Yard trial;
        private final int[] seen;
        private int seenRows;
        private final int[] foot;
        private final int[] worst;
        private final int[] deaths;
        private final int[] fillings;

        Outlook(Almanac almanac, Reckoner reckoner) {
            this.almanac = almanac;
            this.reckoner = reckoner;
            trial = new Yard();
            seen = new int[3 * MOST_SEEN];
            foot = new int[MOST_FEET];
            worst = new int[MOST_FEET];
            deaths = new int[MOST_PEOPLE];
            fillings = new int[MOST_GRAVES * LAST_SEEN];
        }

        int takenIn(Script rules, Yard now, int n) {
            trial.become(now);
            return takenBehind(rules, n);
        }

        private int takenBehind(Script rules, int n) {
            int takenInAll = 0;
            // once no grave asks, none is filled any more
            for (int m = 0; m < n && trial.countAsking() > 0; m++) {
                takenInAll += almanac.pass(rules, trial);
            }
            return takenInAll;
        }

        int filledBehind(Script rules, Yard now, int grave) {
            trial.become(now);
            int last = Math.min(LAST_AHEAD, LAST_MONTH - now.month);
            for (int m = 0; m < last && !trial.isFilled(grave); m++) {
                almanac.pass(rules, trial);
            }
            return trial.isFilled(grave) ? trial.month - now.month : NONE;
        }

        int leastWill(Script rules, Yard now, int person) {
            trial.become(now);
            int asking = now.countAsking();
            for (int will = now.will[person]; will <= MOST_WILL; will++) {
                trial.will[person] = will;
                if (reckoner.value(rules, COMES, trial, person, asking) != 0) {
                    return will;
                }
            }
            return NONE;
        }

        /** The most that are taken by feet dug (worst tells where); NONE if they can't be. */
        int mostTaken(Script rules, Yard now, int feet) {
            for (int i = 0; i < MOST_FEET; i++) {
                foot[i] = 0;
            }
            int most = NONE;
            boolean more = now.graves > 0;
            for (int n = 0; n < MOST_TRIES && more; n++) {
                trial.become(now);
                int takenHere = isDug(feet) ? takenBehind(rules, ENEMY_MONTHS) : NONE;
                if (takenHere > most) {
                    most = takenHere;
                    System.arraycopy(foot, 0, worst, 0, MOST_FEET);
                }
                more = nextFeet(feet, now.graves);
            }
            return most;
        }

        private boolean isDug(int feet) {
            for (int i = 0; i < feet; i++) {
                if (!trial.canBeDug(foot[i])) {
                    return false;
                }
                trial.deep[foot[i]]++;
            }
            return true;
        }

        private boolean nextFeet(int feet, int graves) {
            for (int i = feet - 1; i >= 0; i--) {
                if (foot[i] + 1 < graves) {
                    int grave = foot[i] + 1;
                    for (int j = i; j < feet; j++) {
                        foot[j] = grave;
                    }
                    return true;
                }
            }
            return false;
        }

        /** By how many rows of draws a grave is filled; all rows for NONE. */
        long drawsThatFill(Script rules, Yard now, int grave) {
            int living = 0;
            for (int p = 0; p < now.people; p++) {
                if (now.lives(p)) {
                    living |= 1 << p;
                    deaths[p] = cut(reckoner.value(rules, DIES, now, p, 0), HUNDRED);
                }
            }
            long all = 0;
            for (int dying = 0; dying <= living; dying++) {
                if ((dying & ~living) == 0) {
                    long draws = drawsOf(now, dying);
                    if (draws > 0 && (grave == NONE || isFilledBy(rules, now, dying, grave))) {
                        all += draws;
                    }
                }
            }
            return all;
        }

        private long drawsOf(Yard now, int dying) {
            long draws = 1;
            for (int p = 0; p < now.people; p++) {
                if (now.lives(p)) {
                    draws *= (dying >> p & 1) == 1 ? deaths[p] : HUNDRED - deaths[p];
                }
            }
            return draws;
        }

        private boolean isFilledBy(Script rules, Yard now, int dying, int grave) {
            trial.become(now);
            for (int p = 0; p < now.people; p++) {
                if ((dying >> p & 1) == 1) {
                    trial.bury(p, trial.nextGrave(p), DIED);
                }
            }
            almanac.pass(rules, trial);
            return trial.isFilled(grave);
        }

        /** The wills that one can have by what is seen, as bits. */
        int willsOf(Script rules, Yard now, int person) {
            int bits = 0;
            for (int will = 0; will <= MOST_WILL; will++) {
                if (agrees(rules, now, person, will)) {
                    bits |= 1 << will;
                }
            }
            return bits;
        }

        private boolean agrees(Script rules, Yard now, int person, int will) {
            int last = 0;
            for (int k = 0; k < seenRows; k++) {
                last = Math.max(last, seen[3 * k]);
            }
            if (now.month + last > LAST_MONTH) {
                return false;
            }
            trial.become(now);
            trial.will[person] = will;
            boolean good = isAsSeen(0);
            for (int m = 1; m <= last && good; m++) {
                almanac.pass(rules, trial);
                good = isAsSeen(m);
            }
            return good;
        }

        private boolean isAsSeen(int month) {
            for (int k = 0; k < seenRows; k++) {
                int grave = seen[3 * k + 1];
                if (seen[3 * k] == month && trial.isGrave(grave)
                        && trial.isFilled(grave) != (seen[3 * k + 2] == 1)) {
                    return false;
                }
            }
            return true;
        }

        /** For each month ahead and grave: with how many of the wills it is filled. */
        void countFillings(Script rules, Yard now, int person, int wills) {
            for (int cell = 0; cell < fillings.length; cell++) {
                fillings[cell] = 0;
            }
            int last = Math.min(LAST_SEEN, LAST_MONTH - now.month);
            for (int will = 0; will <= MOST_WILL; will++) {
                if ((wills >> will & 1) == 1) {
                    trial.become(now);
                    trial.will[person] = will;
                    for (int m = 0; m < last; m++) {
                        almanac.pass(rules, trial);
                        addFillings(MOST_GRAVES * m);
                    }
                }
            }
        }

        private void addFillings(int from) {
            for (int g = 0; g < trial.graves; g++) {
                if (trial.isFilled(g)) {
                    fillings[from + g]++;
                }
            }
        }

        int tellingCell(Yard now, int wills) {
            int last = Math.min(LAST_SEEN, LAST_MONTH - now.month);
            int found = 0;
            for (int m = 0; m < last; m++) {
                for (int g = 0; g < now.graves; g++) {
                    if (mostLeft(MOST_GRAVES * m + g, wills) < mostLeft(found, wills)) {
                        found = MOST_GRAVES * m + g;
                    }
                }
            }
            return found;
        }

        int mostLeft(int cell, int wills) {
            return Math.max(fillings[cell], wills - fillings[cell]);
        }
    }

    /** The row of graves: who is best put where. */
    private static final class Rows {
        private static final int SETS = 1 << MOST_PEOPLE;
        /** One grave more weighs more than all the harm there can be. */
        private static final int ONE_MORE = 10000;
        private final int[] harm;
        private final int[] chosen;
        /** Per grave and set of people who lie in those ahead of it: the best from that grave on. */
        private final int[] best;

        Rows() {
            harm = new int[MOST_PEOPLE];
            chosen = new int[MOST_GRAVES];
            best = new int[(MOST_GRAVES + 1) * SETS];
        }

        void choose(Yard yard) {
            for (int used = 0; used < SETS; used++) {
                best[SETS * yard.graves + used] = 0;
            }
            int sets = 1 << yard.people;
            for (int g = yard.graves - 1; g >= 0; g--) {
                for (int used = 0; used < sets; used++) {
                    best[SETS * g + used] = bestFrom(yard, g, used);
                }
            }
            int used = 0;
            for (int g = 0; g < yard.graves; g++) {
                chosen[g] = firstBest(yard, g, used);
                if (chosen[g] != NONE) {
                    used |= 1 << chosen[g];
                }
            }
        }

        private int bestFrom(Yard yard, int grave, int used) {
            int most = best[SETS * (grave + 1) + used];
            for (int p = 0; p < yard.people; p++) {
                if (isFree(yard, grave, used, p)) {
                    most = Math.max(most, with(grave, used, p));
                }
            }
            return most;
        }

        private int firstBest(Yard yard, int grave, int used) {
            int most = best[SETS * grave + used];
            if (best[SETS * (grave + 1) + used] == most) {
                return NONE;
            }
            for (int p = 0; p < yard.people; p++) {
                if (isFree(yard, grave, used, p) && with(grave, used, p) == most) {
                    return p;
                }
            }
            return NONE;
        }

        private boolean isFree(Yard yard, int grave, int used, int person) {
            return yard.asks(grave) && yard.lives(person) && yard.fits(person, grave) && (used >> person & 1) == 0;
        }

        private int with(int grave, int used, int person) {
            return ONE_MORE - harm[person] + best[SETS * (grave + 1) + (used | 1 << person)];
        }

        int countFilled(Yard yard) {
            int count = 0;
            for (int g = 0; g < yard.graves; g++) {
                if (chosen[g] != NONE) {
                    count++;
                }
            }
            return count;
        }

        int wholeHarm(Yard yard) {
            int whole = 0;
            for (int g = 0; g < yard.graves; g++) {
                if (chosen[g] != NONE) {
                    whole += harm[chosen[g]];
                }
            }
            return whole;
        }
    }

    /** The yards ahead of the latest acts. */
    private static final class Past {
        private final Yard[] yards;
        private int count;
        private int oldest;

        Past() {
            yards = new Yard[MOST_ACTS];
            for (int i = 0; i < MOST_ACTS; i++) {
                yards[i] = new Yard();
            }
        }

        void forget() {
            count = 0;
        }

        void keep(Yard now) {
            yards[(oldest + count) % MOST_ACTS].become(now);
            if (count < MOST_ACTS) {
                count++;
            } else {
                oldest = (oldest + 1) % MOST_ACTS;
            }
        }

        void restore(Yard now) {
            if (count > 0) {
                count--;
                now.become(yards[(oldest + count) % MOST_ACTS]);
            }
        }
    }
}

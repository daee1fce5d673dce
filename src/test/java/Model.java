import java.math.BigInteger;
import java.util.ArrayDeque;
import java.util.ArrayList;
import java.util.Arrays;
import java.util.Deque;
import java.util.HashSet;
import java.util.LinkedHashMap;
import java.util.List;
import java.util.Map;
import java.util.Set;

/** The document a second time, in its slowest form, with none of the program's ways: random runs compare the two. */
public final class Model {
    static final int NONE = -1;
    static final long NOTHING = -1000000000000000L;
    static final Set<String> OWN = Set.of("grave", "long", "deep", "due", "person", "tall", "age", "will", "dies",
            "comes", "takes", "heart", "harm", "month", "asked", "taken", "number", "alive", "fits", "or", "and", "not",
            "all", "min", "max");

    static final class Fault extends RuntimeException {
        final int kind;
        final int place;
        Fault(int kind, int place) {
            super(null, null, false, false);
            this.kind = kind;
            this.place = place;
        }
    }

    record Token(char kind, String text, int place) { }

    static final class Grave {
        int length, deep, due;
        Person inside;
        boolean asks() {
            return deep >= 6 && inside == null;
        }
    }

    static final class Person {
        int number, tall, age, will;
        boolean alive = true;
    }

    static final class State {
        int month;
        List<Grave> graves = new ArrayList<>();
        List<Person> people = new ArrayList<>();
        List<int[]> kept = new ArrayList<>();

        State copy() {
            State s = new State();
            s.month = month;
            for (Person p : people) {
                Person q = new Person();
                q.number = p.number;
                q.tall = p.tall;
                q.age = p.age;
                q.will = p.will;
                q.alive = p.alive;
                s.people.add(q);
            }
            for (Grave g : graves) {
                Grave h = new Grave();
                h.length = g.length;
                h.deep = g.deep;
                h.due = g.due;
                h.inside = g.inside == null ? null : s.people.get(g.inside.number);
                s.graves.add(h);
            }
            s.kept.addAll(kept);
            return s;
        }

        int asking() {
            return (int) graves.stream().filter(Grave::asks).count();
        }

        Grave next(Person p) {
            return graves.stream().filter(g -> g.asks() && p.tall <= g.length)
                    .min((a, b) -> Integer.compare(a.due, b.due)).orElse(null);
        }

        void leave(Person p, Grave g, int how) {
            p.alive = false;
            if (g != null) {
                g.inside = p;
            }
            kept.add(new int[] {month, p.number, g == null ? NONE : graves.indexOf(g), how});
        }
    }

    interface Formula {
        long of(State s, Person p, int count);
    }

    static final class Reader {
        final List<Token> tokens = new ArrayList<>();
        final int length;
        int at;
        String purpose = "";
        int open;

        Reader(byte[] text) {
            length = text.length;
            String s = new String(text, java.nio.charset.StandardCharsets.ISO_8859_1);
            int k = 0;
            while (k < length) {
                char c = s.charAt(k);
                int from = k;
                if (c == ' ' || c == '\n') {
                    k++;
                    continue;
                }
                boolean glued = k > 0 && (letter(s.charAt(k - 1)) || digit(s.charAt(k - 1)));
                if (letter(c)) {
                    while (k < length && letter(s.charAt(k))) {
                        k++;
                    }
                    tokens.add(new Token(glued ? '?' : 'w', s.substring(from, k), from));
                } else if (digit(c)) {
                    while (k < length && digit(s.charAt(k))) {
                        k++;
                    }
                    tokens.add(new Token(glued ? '?' : 'n', s.substring(from, k), from));
                } else {
                    k++;
                    tokens.add(new Token('s', s.substring(from, k), from));
                }
            }
            tokens.add(new Token('e', "", length));
        }

        static boolean letter(char c) {
            return c >= 'a' && c <= 'z';
        }

        static boolean digit(char c) {
            return c >= '0' && c <= '9';
        }

        Token peek() {
            return tokens.get(at);
        }

        boolean is(String text) {
            Token t = peek();
            return (t.kind == 'w' || t.kind == 's') && t.text.equals(text);
        }

        boolean eat(String text) {
            if (is(text)) {
                at++;
                return true;
            }
            return false;
        }

        Fault wrong() {
            return new Fault(1, peek().place);
        }

        void need(String text) {
            if (!eat(text)) {
                throw wrong();
            }
        }

        int number(int least, int most) {
            Token t = peek();
            if (t.kind != 'n') {
                throw wrong();
            }
            if (t.text.length() > 4) {
                throw new Fault(1, t.place + 4);
            }
            int v = Integer.parseInt(t.text);
            if (v < least || v > most) {
                throw new Fault(2, t.place);
            }
            at++;
            return v;
        }

        void open() {
            if (++open > 6) {
                throw new Fault(4, peek().place);
            }
            at++;
        }

        Formula test() {
            Formula left = both();
            while (eat("or")) {
                Formula a = left;
                Formula b = both();
                left = (s, p, c) -> a.of(s, p, c) == 1 || b.of(s, p, c) == 1 ? 1 : 0;
            }
            return left;
        }

        Formula both() {
            Formula left = fact();
            while (eat("and")) {
                Formula a = left;
                Formula b = fact();
                left = (s, p, c) -> a.of(s, p, c) == 1 && b.of(s, p, c) == 1 ? 1 : 0;
            }
            return left;
        }

        Formula fact() {
            if (is("not")) {
                open();
                Formula a = fact();
                open--;
                return (s, p, c) -> a.of(s, p, c) == 1 ? 0 : 1;
            }
            if (is("[")) {
                open();
                Formula a = test();
                need("]");
                open--;
                return a;
            }
            if (eat("all")) {
                return (s, p, c) -> 1;
            }
            Formula a = sum();
            if (eat("<")) {
                Formula b = sum();
                return (s, p, c) -> a.of(s, p, c) < b.of(s, p, c) ? 1 : 0;
            }
            if (eat(">")) {
                Formula b = sum();
                return (s, p, c) -> a.of(s, p, c) > b.of(s, p, c) ? 1 : 0;
            }
            if (eat("=")) {
                Formula b = sum();
                return (s, p, c) -> a.of(s, p, c) == b.of(s, p, c) ? 1 : 0;
            }
            throw wrong();
        }

        static long bound(long v) {
            return v > 1000000 ? 1000000 : v < -1000000 ? -1000000 : v;
        }

        Formula sum() {
            Formula left = product();
            while (is("+") || is("-")) {
                boolean plus = is("+");
                at++;
                Formula a = left;
                Formula b = product();
                left = plus ? (s, p, c) -> bound(a.of(s, p, c) + b.of(s, p, c))
                        : (s, p, c) -> bound(a.of(s, p, c) - b.of(s, p, c));
            }
            return left;
        }

        Formula product() {
            Formula left = part();
            while (is("*") || is("/")) {
                boolean times = is("*");
                at++;
                Formula a = left;
                Formula b = part();
                left = times ? (s, p, c) -> bound(a.of(s, p, c) * b.of(s, p, c)) : (s, p, c) -> {
                    long d = b.of(s, p, c);
                    return d == 0 ? 0 : (long) Math.floor((double) a.of(s, p, c) / d);
                };
            }
            return left;
        }

        Formula part() {
            if (peek().kind == 'n') {
                int v = number(0, 9999);
                return (s, p, c) -> v;
            }
            if (is("(")) {
                open();
                Formula a = sum();
                need(")");
                open--;
                return a;
            }
            if (is("min") || is("max")) {
                boolean least = is("min");
                at++;
                if (!is("(")) {
                    throw wrong();
                }
                open();
                Formula a = sum();
                need(",");
                Formula b = sum();
                need(")");
                open--;
                return (s, p, c) -> {
                    long v = a.of(s, p, c);
                    long w = b.of(s, p, c);
                    return least == (v < w) ? v : w;
                };
            }
            if (purpose.equals("ask") && (is("fits") || is("due"))) {
                boolean fits = is("fits");
                open();
                Formula a = part();
                open--;
                return (s, p, c) -> {
                    long g = a.of(s, p, c);
                    if (g < 0 || g >= s.graves.size()) {
                        return 0;
                    }
                    Grave grave = s.graves.get((int) g);
                    return fits ? (p.tall <= grave.length ? 1 : 0) : grave.due;
                };
            }
            if (eat("age")) {
                return (s, p, c) -> p.age;
            }
            if (eat("tall")) {
                return (s, p, c) -> p.tall;
            }
            if (eat("will")) {
                return (s, p, c) -> p.will;
            }
            if (eat("month")) {
                return (s, p, c) -> s.month;
            }
            if (purpose.equals("comes") && eat("asked") || purpose.equals("heart") && eat("taken")) {
                return (s, p, c) -> c;
            }
            if (purpose.equals("ask") && eat("number")) {
                return (s, p, c) -> p.number;
            }
            if (purpose.equals("ask") && eat("alive")) {
                return (s, p, c) -> p.alive ? 1 : 0;
            }
            throw wrong();
        }
    }

    byte[] tape = new byte[0];
    int faultKind;
    int faultPlace = NONE;
    final int[] refused = new int[6];
    State first = new State();
    State now = new State();
    Map<String, Formula> rules = new LinkedHashMap<>();
    List<String> graveNames = new ArrayList<>();
    List<String> personNames = new ArrayList<>();
    List<int[]> seen = new ArrayList<>();
    Deque<State> past = new ArrayDeque<>();
    long seed = 1;
    int[] image = new int[0];

    public int feed(int a, int b, int c, int d, int e) {
        if (tape.length + 20 > 1600) {
            refused[0]++;
            return NONE;
        }
        int from = tape.length;
        tape = Arrays.copyOf(tape, from + 20);
        java.nio.ByteBuffer.wrap(tape, from, 20).putInt(a).putInt(b).putInt(c).putInt(d).putInt(e);
        return tape.length;
    }

    public boolean end(int n) {
        if (n < 0 || n > tape.length) {
            refused[0]++;
            return false;
        }
        tape = Arrays.copyOf(tape, n);
        return true;
    }

    static Formula read(String purpose, String text) {
        Reader r = new Reader(text.getBytes());
        r.purpose = purpose;
        return purpose.equals("comes") ? r.test() : r.sum();
    }

    public int parish() {
        Reader r = new Reader(tape);
        tape = new byte[0];
        State s = new State();
        Map<String, Formula> found = new LinkedHashMap<>();
        List<String> graves = new ArrayList<>();
        List<String> people = new ArrayList<>();
        int statements = 0;
        try {
            while (r.peek().kind != 'e') {
                statement(r, s, found, graves, people);
                r.need(";");
                statements++;
            }
        } catch (Fault f) {
            faultKind = f.kind;
            faultPlace = f.place;
            refused[1]++;
            return NONE;
        }
        faultKind = 0;
        faultPlace = NONE;
        found.putIfAbsent("dies", read("dies", "age/10"));
        found.putIfAbsent("comes", read("comes", "will>8"));
        found.putIfAbsent("takes", read("takes", "age"));
        found.putIfAbsent("heart", read("heart", "will"));
        found.putIfAbsent("harm", read("harm", "9-will"));
        rules = found;
        graveNames = graves;
        personNames = people;
        now = s;
        seen.clear();
        past.clear();
        return statements;
    }

    static void statement(Reader r, State s, Map<String, Formula> found, List<String> graves, List<String> people) {
        Token t = r.peek();
        if (t.kind != 'w' || !Set.of("grave", "person", "dies", "comes", "takes", "heart", "harm").contains(t.text)) {
            throw r.wrong();
        }
        if (t.text.equals("grave") && graves.size() == 6 || t.text.equals("person") && people.size() == 8
                || found.containsKey(t.text)) {
            throw new Fault(5, t.place);
        }
        r.at++;
        if (t.text.equals("grave")) {
            String name = name(r, graves, people);
            Grave g = new Grave();
            r.need("long");
            g.length = r.number(1, 9);
            r.need("deep");
            g.deep = r.number(0, 9);
            r.need("due");
            g.due = r.number(1, 30);
            s.graves.add(g);
            graves.add(name);
        } else if (t.text.equals("person")) {
            String name = name(r, graves, people);
            Person p = new Person();
            p.number = people.size();
            r.need("tall");
            p.tall = r.number(1, 9);
            r.need("age");
            p.age = r.number(0, 99);
            r.need("will");
            p.will = r.number(0, 9);
            s.people.add(p);
            people.add(name);
        } else {
            r.purpose = t.text;
            found.put(t.text, t.text.equals("comes") ? r.test() : r.sum());
        }
    }

    static String name(Reader r, List<String> graves, List<String> people) {
        Token t = r.peek();
        if (t.kind != 'w' || OWN.contains(t.text)) {
            throw r.wrong();
        }
        if (t.text.length() > 6) {
            throw new Fault(1, t.place + 6);
        }
        if (graves.contains(t.text) || people.contains(t.text)) {
            throw new Fault(3, t.place);
        }
        r.at++;
        return t.text;
    }

    public int fault(int what) {
        return what == 0 ? faultKind : what == 1 ? faultPlace : NONE;
    }

    public int has(int what) {
        int[] all = {now.graves.size(), now.people.size(), now.month,
            (int) now.people.stream().filter(p -> p.alive).count(), now.asking(),
            (int) now.graves.stream().filter(g -> g.inside != null).count(), Math.min(40, now.kept.size()), seen.size(),
            past.size()};
        return what >= 0 && what < all.length ? all[what] : NONE;
    }

    public int letter(int kind, int which, int k) {
        List<String> names = kind == 0 ? graveNames : kind == 1 ? personNames : List.of();
        if (which < 0 || which >= names.size() || k < 0 || k > 5) {
            return NONE;
        }
        String name = names.get(which);
        return k < name.length() ? name.charAt(k) - 'a' + 1 : 0;
    }

    Grave graveAt(int grave) {
        return grave >= 0 && grave < now.graves.size() ? now.graves.get(grave) : null;
    }

    Person personAt(int person) {
        return person >= 0 && person < now.people.size() ? now.people.get(person) : null;
    }

    Person aliveAt(int person) {
        Person p = personAt(person);
        return p != null && p.alive ? p : null;
    }

    static int inside(Grave g) {
        return g.inside == null ? NONE : g.inside.number;
    }

    public int grave(int grave, int what) {
        Grave g = graveAt(grave);
        if (g == null || what < 0 || what > 4) {
            return NONE;
        }
        return new int[] {g.length, g.deep, g.due, inside(g), g.asks() ? 1 : 0}[what];
    }

    public int person(int person, int what) {
        Person p = personAt(person);
        if (p == null || what < 0 || what > 3) {
            return NONE;
        }
        return new int[] {p.tall, p.age, p.will, p.alive ? 1 : 0}[what];
    }

    static long cut(long v, long most) {
        return v < 0 ? 0 : v > most ? most : v;
    }

    public long counts(int person, int what) {
        Person p = personAt(person);
        if (p == null || what < 0 || what > 2) {
            return NOTHING;
        }
        if (what == 0) {
            return cut(rules.get("dies").of(now, p, 0), 100);
        }
        return what == 1 ? rules.get("takes").of(now, p, 0) : cut(rules.get("harm").of(now, p, 0), 999);
    }

    public int next(int person) {
        Person p = aliveAt(person);
        return p == null ? NONE : now.graves.indexOf(now.next(p));
    }

    public int kept(int k, int what) {
        int from = Math.max(0, now.kept.size() - 40);
        return k < 0 || from + k >= now.kept.size() || what < 0 || what > 3 ? NONE : now.kept.get(from + k)[what];
    }

    int month(State s) {
        for (Person p : s.people) {
            if (p.alive && rules.get("comes").of(s, p, s.asking()) == 1 && s.next(p) != null) {
                s.leave(p, s.next(p), 0);
            }
        }
        for (Grave g : s.graves) {
            if (g.asks() && g.due > 0) {
                g.due--;
            }
        }
        int taken = 0;
        for (Grave g : s.graves) {
            if (!g.asks() || g.due != 0) {
                continue;
            }
            Person best = null;
            for (Person p : s.people) {
                if (p.alive && p.tall <= g.length
                        && (best == null || rules.get("takes").of(s, p, 0) > rules.get("takes").of(s, best, 0))) {
                    best = p;
                }
            }
            if (best != null) {
                s.leave(best, g, 1);
                taken++;
            }
        }
        for (Person p : s.people) {
            if (p.alive) {
                p.will = (int) cut(rules.get("heart").of(s, p, taken), 9);
                if ((s.month + 1) % 12 == 0) {
                    p.age = Math.min(99, p.age + 1);
                }
            }
        }
        s.month++;
        return taken;
    }

    State ahead(State from, int n) {
        State s = from.copy();
        for (int k = 0; k < n; k++) {
            month(s);
        }
        return s;
    }

    static int takenSince(State from, State to) {
        return (int) to.kept.stream().skip(from.kept.size()).filter(k -> k[3] == 1).count();
    }

    boolean canBeAhead(int n) {
        return n >= 0 && n <= 60 && now.month + n <= 999;
    }

    public int later(int grave, int n) {
        return graveAt(grave) == null || !canBeAhead(n) ? NONE : inside(ahead(now, n).graves.get(grave));
    }

    public int filled(int grave) {
        if (graveAt(grave) != null) {
            for (int n = 0; canBeAhead(n); n++) {
                if (ahead(now, n).graves.get(grave).inside != null) {
                    return n;
                }
            }
        }
        return NONE;
    }

    public int taken(int n) {
        return canBeAhead(n) ? takenSince(now, ahead(now, n)) : NONE;
    }

    int[] bestRow;
    int bestCount;
    long bestHarm;

    void rowsFrom(int g, int[] row, int count, long harm) {
        if (g == now.graves.size()) {
            if (bestRow == null || count > bestCount || count == bestCount && harm < bestHarm) {
                bestRow = row.clone();
                bestCount = count;
                bestHarm = harm;
            }
            return;
        }
        row[g] = NONE;
        rowsFrom(g + 1, row, count, harm);
        Grave grave = now.graves.get(g);
        if (!grave.asks()) {
            return;
        }
        for (Person p : now.people) {
            boolean used = false;
            for (int h = 0; h < g; h++) {
                used |= row[h] == p.number;
            }
            if (!used && p.alive && p.tall <= grave.length) {
                row[g] = p.number;
                rowsFrom(g + 1, row, count + 1, harm + counts(p.number, 2));
            }
        }
    }

    public int row(int what) {
        bestRow = null;
        rowsFrom(0, new int[now.graves.size()], 0, 0);
        if (what == 0) {
            return bestCount;
        }
        if (what == 1) {
            return (int) bestHarm;
        }
        return what >= 2 && what - 2 < bestRow.length ? bestRow[what - 2] : NONE;
    }

    public int persuade(int person) {
        Person p = aliveAt(person);
        if (p != null) {
            for (int w = p.will; w <= 9; w++) {
                State s = now.copy();
                s.people.get(person).will = w;
                if (rules.get("comes").of(s, s.people.get(person), s.asking()) == 1) {
                    return w;
                }
            }
        }
        return NONE;
    }

    void feet(int n, List<Integer> row, List<List<Integer>> all) {
        if (row.size() == n) {
            all.add(new ArrayList<>(row));
            return;
        }
        for (int g = row.isEmpty() ? 0 : row.get(row.size() - 1); g < now.graves.size(); g++) {
            row.add(g);
            feet(n, row, all);
            row.remove(row.size() - 1);
        }
    }

    public int enemy(int n, int k) {
        if (n < 1 || n > 4 || k < -1 || k >= n || now.month + 12 > 999) {
            return NONE;
        }
        List<List<Integer>> all = new ArrayList<>();
        feet(n, new ArrayList<>(), all);
        int most = NONE;
        List<Integer> best = null;
        for (List<Integer> row : all) {
            State s = now.copy();
            boolean good = true;
            for (int g : row) {
                Grave grave = s.graves.get(g);
                grave.deep++;
                good &= grave.inside == null && grave.deep <= 9;
            }
            if (good) {
                int taken = takenSince(s, ahead(s, 12));
                if (taken > most) {
                    most = taken;
                    best = row;
                }
            }
        }
        return best == null || k == NONE ? most : best.get(k);
    }

    BigInteger oddsFrom(int p, State s, int grave) {
        if (p == s.people.size()) {
            return grave == NONE || ahead(s, 1).graves.get(grave).inside != null ? BigInteger.ONE : BigInteger.ZERO;
        }
        if (!now.people.get(p).alive) {
            return oddsFrom(p + 1, s, grave);
        }
        long dies = counts(p, 0);
        BigInteger all = BigInteger.ZERO;
        if (dies > 0) {
            State t = s.copy();
            t.leave(t.people.get(p), t.next(t.people.get(p)), 2);
            all = all.add(oddsFrom(p + 1, t, grave).multiply(BigInteger.valueOf(dies)));
        }
        if (dies < 100) {
            all = all.add(oddsFrom(p + 1, s, grave).multiply(BigInteger.valueOf(100 - dies)));
        }
        return all;
    }

    public long odds(int grave) {
        if (now.month == 999 || grave != NONE && graveAt(grave) == null) {
            return NOTHING;
        }
        return oddsFrom(0, now, grave).longValueExact();
    }

    public int see() {
        byte[] t = tape;
        tape = new byte[0];
        List<int[]> rows = new ArrayList<>();
        boolean good = t.length > 0 && t.length % 3 == 0 && t.length <= 48;
        for (int k = 0; good && k < t.length; k += 3) {
            rows.add(new int[] {t[k] & 255, t[k + 1] & 255, t[k + 2] & 255});
            good = (t[k] & 255) <= 30 && (t[k + 1] & 255) < now.graves.size() && (t[k + 2] & 255) <= 1;
        }
        if (!good) {
            refused[1]++;
            return NONE;
        }
        seen = rows;
        return rows.size();
    }

    State withWill(int person, int will, int n) {
        State s = now.copy();
        s.people.get(person).will = will;
        return ahead(s, n);
    }

    public int wills(int person) {
        if (aliveAt(person) == null) {
            return NONE;
        }
        int bits = 0;
        for (int w = 0; w <= 9; w++) {
            boolean good = true;
            for (int[] row : seen) {
                good = good && now.month + row[0] <= 999
                        && (withWill(person, w, row[0]).graves.get(row[1]).inside != null) == (row[2] == 1);
            }
            bits |= good ? 1 << w : 0;
        }
        return bits;
    }

    public int tells(int person, int what) {
        int bits = wills(person);
        if (bits <= 0 || what < 0 || what > 2) {
            return NONE;
        }
        int[] best = null;
        for (int m = 1; m <= 30 && now.month + m <= 999; m++) {
            int[] filled = new int[now.graves.size()];
            for (int w = 0; w <= 9; w++) {
                if ((bits >> w & 1) == 1) {
                    State s = withWill(person, w, m);
                    for (int g = 0; g < filled.length; g++) {
                        filled[g] += s.graves.get(g).inside != null ? 1 : 0;
                    }
                }
            }
            for (int g = 0; g < filled.length; g++) {
                int left = Math.max(filled[g], Integer.bitCount(bits) - filled[g]);
                if (best == null || left < best[2]) {
                    best = new int[] {m, g, left};
                }
            }
        }
        return best == null ? NONE : best[what];
    }

    void act() {
        past.addLast(now.copy());
        if (past.size() > 20) {
            past.removeFirst();
        }
    }

    public int dig(int grave) {
        Grave g = graveAt(grave);
        if (g == null || g.inside != null || g.deep == 9) {
            refused[2]++;
            return NONE;
        }
        act();
        return ++g.deep;
    }

    public boolean fill(int grave, int person) {
        Grave g = graveAt(grave);
        Person p = aliveAt(person);
        if (g == null || p == null || g.inside != null || p.tall > g.length) {
            refused[2]++;
            return false;
        }
        act();
        now.leave(p, g, 3);
        return true;
    }

    public boolean talk(int person, int will) {
        Person p = aliveAt(person);
        if (p == null || will < 0 || will > 9 || will == p.will) {
            refused[2]++;
            return false;
        }
        act();
        p.will = will;
        return true;
    }

    public int months(int n) {
        if (n < 1 || n > 100 || now.month + n > 999) {
            refused[3]++;
            return NONE;
        }
        act();
        int taken = 0;
        for (int k = 0; k < n; k++) {
            taken += month(now);
        }
        return taken;
    }

    public int chance(int n) {
        if (n < 1 || n > 100 || now.month + n > 999) {
            refused[3]++;
            return NONE;
        }
        act();
        int died = 0;
        for (int k = 0; k < n; k++) {
            for (Person p : now.people) {
                if (!p.alive) {
                    continue;
                }
                seed = BigInteger.valueOf(1103515245).multiply(BigInteger.valueOf(seed)).add(BigInteger.valueOf(12345))
                        .mod(BigInteger.ONE.shiftLeft(31)).longValueExact();
                if (seed / 64 % 100 < counts(p.number, 0)) {
                    now.leave(p, now.next(p), 2);
                    died++;
                }
            }
            month(now);
        }
        return died;
    }

    public boolean undo() {
        if (past.isEmpty()) {
            refused[4]++;
            return false;
        }
        now = past.removeLast();
        return true;
    }

    public boolean seed(int seed) {
        if (seed < 0) {
            refused[5]++;
            return false;
        }
        this.seed = seed;
        return true;
    }

    public long ask() {
        Reader r = new Reader(tape);
        tape = new byte[0];
        r.purpose = "ask";
        String kind = r.peek().text;
        Formula f;
        try {
            if (r.peek().kind != 'w' || !Set.of("first", "last", "often", "total", "most", "least").contains(kind)) {
                throw r.wrong();
            }
            r.at++;
            f = Set.of("first", "last", "often").contains(kind) ? r.test() : r.sum();
            if (r.peek().kind != 'e') {
                throw r.wrong();
            }
        } catch (Fault e) {
            faultKind = e.kind;
            faultPlace = e.place;
            return NOTHING;
        }
        faultKind = 0;
        faultPlace = NONE;
        long[] values = now.people.stream().mapToLong(p -> f.of(now, p, 0)).toArray();
        switch (kind) {
            case "first":
                for (int p = 0; p < values.length; p++) {
                    if (values[p] == 1) {
                        return p;
                    }
                }
                return NONE;
            case "last":
                for (int p = values.length - 1; p >= 0; p--) {
                    if (values[p] == 1) {
                        return p;
                    }
                }
                return NONE;
            case "most":
                return Arrays.stream(values).max().orElse(0);
            case "least":
                return Arrays.stream(values).min().orElse(0);
            default:
                return Arrays.stream(values).sum();
        }
    }

    static int sumOf(int[] bytes, int n) {
        int c = 241;
        for (int k = 0; k < n; k++) {
            c = (3 * c + bytes[k]) % 251;
        }
        return c;
    }

    public int image() {
        List<Integer> all = new ArrayList<>(List.of(now.month >> 8, now.month & 255));
        for (Grave g : now.graves) {
            all.addAll(List.of(g.deep, g.due, g.inside == null ? 255 : g.inside.number));
        }
        for (Person p : now.people) {
            all.addAll(List.of(p.alive ? 1 : 0, p.age, p.will));
        }
        all.add(0);
        image = all.stream().mapToInt(v -> v).toArray();
        image[image.length - 1] = sumOf(image, image.length - 1);
        return image.length;
    }

    public int octet(int k) {
        return k >= 0 && k < image.length ? image[k] : NONE;
    }

    public boolean on() {
        int[] t = new int[tape.length];
        for (int k = 0; k < t.length; k++) {
            t[k] = tape[k] & 255;
        }
        tape = new byte[0];
        State s = stateOf(t);
        if (s == null) {
            refused[5]++;
            return false;
        }
        now = s;
        past.clear();
        return true;
    }

    State stateOf(int[] t) {
        int graves = now.graves.size();
        int people = now.people.size();
        if (t.length != 3 + 3 * (graves + people) || sumOf(t, t.length - 1) != t[t.length - 1]) {
            return null;
        }
        State s = now.copy();
        s.kept.clear();
        s.month = t[0] * 256 + t[1];
        boolean good = s.month <= 999;
        for (int p = 0; p < people; p++) {
            int from = 2 + 3 * (graves + p);
            Person q = s.people.get(p);
            q.alive = t[from] == 1;
            q.age = t[from + 1];
            q.will = t[from + 2];
            good &= t[from] <= 1 && q.age <= 99 && q.will <= 9;
        }
        Set<Integer> lying = new HashSet<>();
        for (int g = 0; g < graves; g++) {
            int from = 2 + 3 * g;
            Grave h = s.graves.get(g);
            h.deep = t[from];
            h.due = t[from + 1];
            h.inside = null;
            good &= h.deep <= 9 && h.due <= 30;
            if (t[from + 2] != 255) {
                if (t[from + 2] >= people || !lying.add(t[from + 2])) {
                    return null;
                }
                h.inside = s.people.get(t[from + 2]);
                good &= !h.inside.alive && h.inside.tall <= h.length;
            }
        }
        return good ? s : null;
    }

    public int status(int what) {
        return what >= 0 && what < 6 ? refused[what] : NONE;
    }
}

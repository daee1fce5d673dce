import java.util.ArrayList;
import java.util.List;
import java.util.Random;

/** Random texts of the small language, mostly without faults. */
final class Texts {
    private final Random random;
    private String[] plain;
    private boolean question;

    Texts(Random random) {
        this.random = random;
    }

    private String pick(String... all) {
        return all[random.nextInt(all.length)];
    }

    private int number(int least, int most) {
        return least + random.nextInt(most - least + 1);
    }

    String parish() {
        List<String> all = new ArrayList<>();
        int graves = random.nextInt(12) == 0 ? 7 : number(0, 6);
        int people = random.nextInt(12) == 0 ? 9 : number(1, 8);
        for (int g = 0; g < graves; g++) {
            all.add("grave " + (char) ('a' + g) + "x long " + number(3, 9) + " deep " + number(3, 9) + " due "
                    + number(1, random.nextInt(3) == 0 ? 30 : 5));
        }
        for (int p = 0; p < people; p++) {
            all.add("person " + (char) ('a' + p) + pick("be", "b", "bcdef") + " tall " + number(1, 8) + " age "
                    + number(0, 99) + " will " + number(0, 9));
        }
        for (String rule : new String[] {"dies", "comes", "takes", "heart", "harm"}) {
            if (random.nextInt(4) != 0) {
                plain = rule.equals("comes") ? new String[] {"age", "tall", "will", "month", "asked"}
                        : rule.equals("heart") ? new String[] {"age", "tall", "will", "month", "taken", "taken"}
                        : new String[] {"age", "tall", "will", "month"};
                all.add(random.nextInt(all.size() + 1), rule + " " + (rule.equals("comes") ? comes() : rule(rule)));
            }
        }
        return String.join(pick(";", " ;\n", "; "), all) + (all.isEmpty() ? "" : ";");
    }

    private String comes() {
        return random.nextInt(2) == 0 ? test(2) : "will>" + number(4, 9) + pick(" and ", " or ") + fact(1);
    }

    private String rule(String rule) {
        if (rule.equals("heart") && random.nextInt(2) == 0) {
            return "will" + pick("+", "-") + pick("taken", "1", "taken*2", "month/7", "(age-50)/20");
        }
        if (rule.equals("dies") && random.nextInt(2) == 0) {
            return "age" + pick("/2", "+10", "*2-30", "-50");
        }
        return sum(2);
    }

    String question() {
        question = true;
        plain = new String[] {"age", "tall", "will", "month", "number", "alive"};
        return random.nextInt(2) == 0 ? pick("first ", "last ", "often ") + test(3)
                : pick("total ", "most ", "least ") + sum(3);
    }

    private String test(int deep) {
        StringBuilder s = new StringBuilder(both(deep));
        while (random.nextInt(4) == 0) {
            s.append(" or ").append(both(deep));
        }
        return s.toString();
    }

    private String both(int deep) {
        StringBuilder s = new StringBuilder(fact(deep));
        while (random.nextInt(4) == 0) {
            s.append(" and ").append(fact(deep));
        }
        return s.toString();
    }

    private String fact(int deep) {
        int kind = deep == 0 ? 9 : random.nextInt(10);
        if (kind == 0) {
            return "not " + fact(deep - 1);
        }
        if (kind == 1) {
            return "[" + test(deep - 1) + "]";
        }
        if (kind == 2) {
            return "all";
        }
        return sum(deep) + pick("<", ">", "=") + sum(deep);
    }

    private String sum(int deep) {
        StringBuilder s = new StringBuilder(product(deep));
        while (random.nextInt(3) == 0) {
            s.append(pick("+", "-", " + ")).append(product(deep));
        }
        return s.toString();
    }

    private String product(int deep) {
        StringBuilder s = new StringBuilder(part(deep));
        while (random.nextInt(4) == 0) {
            s.append(pick("*", "/")).append(part(deep));
        }
        return s.toString();
    }

    private String part(int deep) {
        int kind = deep == 0 ? 5 + random.nextInt(5) : random.nextInt(10);
        if (kind == 0) {
            return "(" + sum(deep - 1) + ")";
        }
        if (kind == 1) {
            return pick("min", "max") + pick("(", " ( ") + sum(deep - 1) + pick(",", " , ") + sum(deep - 1) + ")";
        }
        if (kind == 2 && question) {
            return pick("fits ", "due ") + part(deep - 1);
        }
        if (kind < 6) {
            return String.valueOf(random.nextInt(4) == 0 ? random.nextInt(10000) : random.nextInt(10));
        }
        return plain[random.nextInt(plain.length)];
    }
}

import java.lang.reflect.InvocationTargetException;
import java.lang.reflect.Method;
import java.nio.charset.StandardCharsets;
import java.util.ArrayList;
import java.util.Arrays;
import java.util.List;
import java.util.Random;

/** Random runs of at most 512 calls on the program and on the slow model: each answer must be the same. */
public final class RandomRunsTest {
    private static final int RUNS = 400;
    private static final int CALLS = 512;
    private static final List<Method> METHODS = methods();

    private final Random random;
    private final OpenGraves program = new OpenGraves();
    private final Model model = new Model();
    private final StringBuilder story = new StringBuilder();
    private int calls;
    private int wrong;

    private RandomRunsTest(long seed) {
        random = new Random(seed);
    }

    private static List<Method> methods() {
        List<Method> all = new ArrayList<>();
        for (Method m : OpenGraves.class.getDeclaredMethods()) {
            if (java.lang.reflect.Modifier.isPublic(m.getModifiers())) {
                all.add(m);
            }
        }
        all.sort((a, b) -> a.getName().compareTo(b.getName()));
        return all;
    }

    public static void main(String[] args) {
        int runs = args.length > 0 ? Integer.parseInt(args[0]) : RUNS;
        int from = args.length > 1 ? Integer.parseInt(args[1]) : 0;
        int wrong = 0;
        for (int seed = from; seed < from + runs; seed++) {
            RandomRunsTest run = new RandomRunsTest(seed);
            run.go();
            if (run.wrong > 0) {
                wrong++;
                System.out.println("random run " + seed + ":\n" + run.story);
            }
        }
        System.out.println("RandomRunsTest: " + runs + " runs, " + wrong + " not as the model's");
        System.exit(wrong == 0 ? 0 : 1);
    }

    private void go() {
        if (random.nextInt(20) != 0) {
            put(bytes(new Texts(random).parish()));
            call("parish");
        }
        while (calls < CALLS - 90 && wrong == 0) {
            step();
        }
    }

    private void step() {
        switch (random.nextInt(40)) {
            case 0:
                put(bytes(mutated(new Texts(random).parish())));
                call("parish");
                call("fault", 0);
                call("fault", 1);
                break;
            case 1:
                if (random.nextInt(3) == 0) {
                    put(bytes(new Texts(random).parish()));
                    call("parish");
                }
                break;
            case 2:
            case 3:
            case 4:
                put(bytes(new Texts(random).question()));
                call("ask");
                break;
            case 5:
                put(bytes(mutated(new Texts(random).question())));
                call("ask");
                call("fault", 0);
                call("fault", 1);
                break;
            case 6:
            case 7:
                see();
                break;
            case 8:
                image();
                break;
            case 9:
                call("months", 1 + random.nextInt(random.nextInt(6) == 0 ? 100 : 3));
                break;
            case 10:
                call("chance", 1 + random.nextInt(random.nextInt(6) == 0 ? 30 : 3));
                break;
            case 11:
                call("undo");
                break;
            default:
                any();
                break;
        }
    }

    private void any() {
        Method m = METHODS.get(random.nextInt(METHODS.size()));
        Object[] args = new Object[m.getParameterCount()];
        for (int k = 0; k < args.length; k++) {
            int kind = random.nextInt(30);
            args[k] = kind == 0 ? random.nextInt() : kind < 3 ? random.nextInt(130) - 10 : random.nextInt(10) - 1;
        }
        if (random.nextInt(3) != 0 && (m.getName().equals("months") || m.getName().equals("parish"))) {
            return;
        }
        call(m, args);
    }

    private void see() {
        int rows = random.nextInt(8) == 0 ? random.nextInt(20) : 1 + random.nextInt(2);
        byte[] octets = new byte[3 * rows + (random.nextInt(20) == 0 ? 1 : 0)];
        for (int k = 0; k < octets.length; k++) {
            octets[k] = (byte) random.nextInt(random.nextInt(200) == 0 ? 40 : k % 3 == 0 ? 8 : k % 3 == 1 ? 3 : 2);
        }
        put(octets);
        call("see");
        call("wills", random.nextInt(5));
        call("tells", random.nextInt(5), random.nextInt(3));
    }

    private void image() {
        int size = (int) call("image");
        byte[] octets = new byte[size];
        for (int k = 0; k < size; k++) {
            octets[k] = (byte) call("octet", k);
        }
        if (random.nextInt(4) != 0) {
            for (int n = random.nextInt(4); n > 0; n--) {
                int k = random.nextInt(size);
                int most = new int[] {2, 4, 10, 32, 101, 256}[random.nextInt(6)];
                octets[k] = (byte) (k == 0 ? random.nextInt(5) : random.nextInt(most));
            }
            if (random.nextInt(10) == 0) {
                octets = Arrays.copyOf(octets, random.nextInt(size + 3));
            }
            if (octets.length > 0 && random.nextInt(15) != 0) {
                int c = 241;
                for (int k = 0; k < octets.length - 1; k++) {
                    c = (3 * c + (octets[k] & 255)) % 251;
                }
                octets[octets.length - 1] = (byte) c;
            }
        }
        put(octets);
        call("on");
    }

    private String mutated(String text) {
        StringBuilder s = new StringBuilder(text);
        String signs = "abgzA019 \n;()[]<>=+-*/,\t" + (char) 200 + (char) 0;
        String[] words = {"not ", "(", "[", "grave ", "due ", "12345", " fits ", "min(", "or ", "asked", "taken", "all ",
            "personx ", " ", "person abe tall 1 age 1 will 1;", "dies 1;"};
        for (int n = 1 + random.nextInt(2); n > 0 && s.length() > 0; n--) {
            int k = random.nextInt(s.length());
            switch (random.nextInt(6)) {
                case 0: s.deleteCharAt(k); break;
                case 1: s.insert(k, signs.charAt(random.nextInt(signs.length()))); break;
                case 2: s.setCharAt(k, signs.charAt(random.nextInt(signs.length()))); break;
                case 3: s.setLength(k); break;
                case 4: s.insert(k, words[random.nextInt(words.length)]); break;
                default:
                    int blank = s.indexOf(" ", k);
                    s.insert(blank < 0 ? k : blank + 1, words[random.nextInt(words.length)]);
                    break;
            }
        }
        return s.toString();
    }

    private static byte[] bytes(String text) {
        byte[] all = text.getBytes(StandardCharsets.ISO_8859_1);
        return all.length > 1600 ? Arrays.copyOf(all, 1600) : all;
    }

    private void put(byte[] octets) {
        story.append("  -- ").append(new String(octets, StandardCharsets.ISO_8859_1)).append('\n');
        call("end", 0);
        for (int k = 0; k < octets.length; k += 20) {
            call("feed", Check.word(octets, k), Check.word(octets, k + 4), Check.word(octets, k + 8),
                    Check.word(octets, k + 12), Check.word(octets, k + 16));
        }
        call("end", octets.length);
    }

    private long call(String name, Object... args) {
        for (Method m : METHODS) {
            if (m.getName().equals(name)) {
                return call(m, args);
            }
        }
        throw new IllegalStateException(name);
    }

    private long call(Method m, Object[] args) {
        calls++;
        long got;
        long want;
        try {
            want = number(Model.class.getDeclaredMethod(m.getName(), m.getParameterTypes()).invoke(model, args));
            got = number(m.invoke(program, args));
        } catch (NoSuchMethodException | IllegalAccessException e) {
            throw new IllegalStateException(e);
        } catch (InvocationTargetException e) {
            e.getCause().printStackTrace(System.out);
            story.append("  ").append(m.getName()).append(Arrays.toString(args)).append(" threw\n");
            wrong++;
            return 0;
        }
        if (!m.getName().equals("feed")) {
            story.append("  ").append(m.getName()).append(Arrays.toString(args)).append(" = ").append(got).append('\n');
        }
        if (got != want) {
            story.append("  the model's answer is ").append(want).append('\n');
            wrong++;
        }
        return got;
    }

    private static long number(Object answer) {
        return answer instanceof Boolean b ? (b ? 1 : 0) : ((Number) answer).longValue();
    }
}

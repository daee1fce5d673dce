import java.io.IOException;
import java.lang.reflect.Method;
import java.lang.reflect.Modifier;
import java.nio.file.Files;
import java.nio.file.Path;
import java.util.ArrayList;
import java.util.List;
import java.util.Map;
import java.util.TreeMap;
import java.util.function.ToLongFunction;
import java.util.regex.Matcher;
import java.util.regex.Pattern;
import java.util.stream.Stream;

/** What README.md says must be so when it is followed. */
public final class ReadmeTest {
    private static final Path PROGRAM = Path.of("src/main/java/OpenGraves.java");
    private static final Check check = new Check();

    public static void main(String[] args) throws IOException, InterruptedException {
        String readme = Files.readString(Path.of("README.md"));
        everyCallIsNamed(readme);
        everyTestIsNamed(readme);
        theProgramPrintsWhatItSays(readme);
        refusedCallsAnswerSo(readme);
        fourCallsReadTheTape(readme);
        callsThatTellAreNotCounted();
        whatStays();
        check.close("ReadmeTest");
    }

    private static void everyCallIsNamed(String readme) {
        for (Method m : OpenGraves.class.getDeclaredMethods()) {
            if (Modifier.isPublic(m.getModifiers())) {
                boolean named = Pattern.compile("`" + m.getName() + "(\\([^`]*\\))?`").matcher(readme).find();
                check.due("README.md names " + m.getName(), named, true);
            }
        }
    }

    private static void everyTestIsNamed(String readme) throws IOException {
        try (Stream<Path> files = Files.list(Path.of("src/test/java"))) {
            for (Path file : files.toList()) {
                String name = file.getFileName().toString().replace(".java", "");
                if (name.endsWith("Test")) {
                    check.due("README.md names " + name, readme.contains("`" + name + "`"), true);
                }
            }
        }
        Matcher named = Pattern.compile("`(\\w+Test)`").matcher(readme);
        while (named.find()) {
            check.due("there is " + named.group(1), Files.exists(Path.of("src/test/java", named.group(1) + ".java")), true);
        }
    }

    /** The first block of that kind. */
    private static String block(String readme, String kind) {
        Matcher m = Pattern.compile("(?s)\n```" + kind + "\n(.*?)```\n").matcher(readme);
        boolean found = m.find();
        check.due("README.md has a block of " + kind, found, true);
        return found ? m.group(1) : "";
    }

    /** The commands are followed in a directory that has the program alone. */
    private static void theProgramPrintsWhatItSays(String readme) throws IOException, InterruptedException {
        Path place = Files.createTempDirectory("readme");
        try {
            Files.createDirectories(place.resolve(PROGRAM).getParent());
            Files.copy(PROGRAM, place.resolve(PROGRAM));
            Files.writeString(place.resolve("Visit.java"), block(readme, "java"));
            Process shell = new ProcessBuilder("bash", "-e", "-c", block(readme, "sh")).directory(place.toFile())
                    .redirectErrorStream(true).start();
            String printed = new String(shell.getInputStream().readAllBytes());
            check.due("exit code of README.md's commands", shell.waitFor(), 0);
            List<String> got = printed.lines().toList();
            List<String> want = block(readme, "text").lines().toList();
            check.due("lines that README.md's program prints", got.size(), want.size());
            for (int k = 0; k < Math.min(got.size(), want.size()); k++) {
                check.due("<" + got.get(k) + "> is README.md's <" + want.get(k) + ">", got.get(k).equals(want.get(k)), true);
            }
        } finally {
            remove(place);
        }
    }

    private static void remove(Path place) throws IOException {
        List<Path> all;
        try (Stream<Path> files = Files.walk(place)) {
            all = new ArrayList<>(files.toList());
        }
        for (int k = all.size() - 1; k >= 0; k--) {
            Files.delete(all.get(k));
        }
    }

    /** For each call one that is refused, on a new object with an empty tape. */
    private static Map<String, ToLongFunction<OpenGraves>> refusals() {
        Map<String, ToLongFunction<OpenGraves>> all = new TreeMap<>();
        all.put("feed", ReadmeTest::feedTooMuch);
        all.put("end", x -> x.end(1) ? 1 : 0);
        all.put("parish", x -> {
            Check.put(x, "x");
            return x.parish();
        });
        all.put("see", OpenGraves::see);
        all.put("dig", x -> x.dig(0));
        all.put("fill", x -> x.fill(0, 0) ? 1 : 0);
        all.put("talk", x -> x.talk(0, 0) ? 1 : 0);
        all.put("months", x -> x.months(0));
        all.put("chance", x -> x.chance(101));
        all.put("undo", x -> x.undo() ? 1 : 0);
        all.put("seed", x -> x.seed(-1) ? 1 : 0);
        all.put("on", x -> x.on() ? 1 : 0);
        return all;
    }

    private static long feedTooMuch(OpenGraves x) {
        for (int k = 0; k < 80; k++) {
            x.feed(0, 0, 0, 0, 0);
        }
        return x.feed(0, 0, 0, 0, 0);
    }

    private static void refusedCallsAnswerSo(String readme) {
        Map<String, ToLongFunction<OpenGraves>> left = refusals();
        Matcher row = Pattern.compile("\n\\| `(\\w+)` \\| `(NONE|false)` \\| `status\\((\\d)\\)` \\| ").matcher(readme);
        int at = 0;
        while (row.find(at)) {
            at = row.end();
            ToLongFunction<OpenGraves> call = left.remove(row.group(1));
            check.due("README.md's refused " + row.group(1) + " is tried out", call != null, true);
            if (call != null) {
                OpenGraves x = new OpenGraves();
                check.due("refused " + row.group(1), call.applyAsLong(x), row.group(2).equals("NONE") ? OpenGraves.NONE : 0);
                for (int what = 0; what <= 5; what++) {
                    check.due("status(" + what + ") behind " + row.group(1), x.status(what),
                            what == Integer.parseInt(row.group(3)) ? 1 : 0);
                }
            }
        }
        check.due("refused calls that README.md does not name: " + left.keySet(), left.size(), 0);
    }

    private static void fourCallsReadTheTape(String readme) {
        String parish = "grave g long 6 deep 6 due 2;person p tall 5 age 71 will 4;";
        for (String call : new String[] {"parish", "ask", "see", "on"}) {
            check.due("README.md: " + call + " reads the tape", readme.contains("\n| `" + call + "` | the ")
                    || readme.contains("\n| `" + call + "` | 1 to 16 rows "), true);
            OpenGraves x = Check.told(parish);
            Check.put(x, "no such thing");
            read(x, call);
            check.due("the tape behind " + call + " that can't be done is empty", x.end(1), false);
            putGood(x, call, parish);
            check.due(call + " that can be done is not refused", read(x, call) < 0, false);
            check.due("the tape behind " + call + " is empty", x.end(1), false);
        }
    }

    private static long read(OpenGraves x, String call) {
        switch (call) {
            case "parish": return x.parish();
            case "ask": return x.ask();
            case "see": return x.see();
            default: return x.on() ? 1 : OpenGraves.NONE;
        }
    }

    private static void putGood(OpenGraves x, String call, String parish) {
        switch (call) {
            case "parish": Check.put(x, parish); break;
            case "ask": Check.put(x, "often all"); break;
            case "see": Check.put(x, 30, 0, 1); break;
            default: Check.put(x, Check.imageOf(x)); break;
        }
    }

    private static void callsThatTellAreNotCounted() {
        OpenGraves x = new OpenGraves();
        check.due("counts(0, 0)", x.counts(0, 0), OpenGraves.NOTHING);
        check.due("odds(0)", x.odds(0), OpenGraves.NOTHING);
        check.due("ask of nothing", x.ask(), OpenGraves.NOTHING);
        long[] told = {x.fault(2), x.has(9), x.letter(0, 0, 0), x.grave(0, 0), x.person(0, 0), x.next(0), x.kept(0, 0),
            x.later(0, 0), x.filled(0), x.taken(61), x.row(2), x.persuade(0), x.enemy(1, 0), x.wills(0), x.tells(0, 0),
            x.octet(0), x.status(6)};
        for (int k = 0; k < told.length; k++) {
            check.due("where there is none such, call " + k, told[k], OpenGraves.NONE);
        }
        for (int what = 0; what <= 5; what++) {
            check.due("status(" + what + ") behind calls that tell", x.status(what), 0);
        }
    }

    /** The first draw of 100 is 12 by the seed 2, 18 by the seed 1: one whose dies is 15 tells them apart. */
    private static void whatStays() {
        String parish = "grave g long 6 deep 6 due 2;person p tall 5 age 71 will 4;dies 15;";
        OpenGraves x = Check.told(parish);
        x.seed(2);
        x.undo();
        x.dig(0);
        int[] image = Check.imageOf(x);
        check.due("see()", Check.sees(x, 30, 0, 1), 1);
        check.due("on()", Check.goesOn(x, image), true);
        check.due("has(7) behind on()", x.has(7), 1);
        check.due("has(8) behind on()", x.has(8), 0);
        Check.put(x, parish);
        check.due("parish()", x.parish(), 3);
        check.due("has(7) behind parish()", x.has(7), 0);
        check.due("grave(0, 1) behind parish()", x.grave(0, 1), 6);
        check.due("status(4) behind both", x.status(4), 1);
        check.due("octet(2) behind both", x.octet(2), 7);
        check.due("chance(1) behind both", x.chance(1), 1);
    }
}

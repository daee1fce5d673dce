import java.io.IOException;
import java.nio.charset.StandardCharsets;
import java.nio.file.Files;
import java.nio.file.Path;
import java.util.Arrays;

/** What the tests share: comparing answers, putting texts on the tape. */
final class Check {
    private static final Path DOCUMENT = Path.of("../shared/DOC.md");
    private int wrong;
    private int asked;
    private String document;
    private String sentence = "";

    /** The document's words to which the answers that follow are due: they must stand there, so that no test outlives them. */
    void sentence(String words) {
        sentence = "\"" + words + "\": ";
        if (document == null) {
            document = document();
        }
        if (!document.isEmpty() && !document.contains(words)) {
            wrong++;
            System.out.println("the document does not say " + sentence);
        }
    }

    /** The document's text; empty where the tests run without it. */
    private static String document() {
        try {
            return Files.readString(DOCUMENT);
        } catch (IOException e) {
            System.out.println("no document at " + DOCUMENT + ": its words are not looked up");
            return "";
        }
    }

    void due(String call, long got, long want) {
        asked++;
        if (got != want) {
            wrong++;
            System.out.println(sentence + call + " answered " + got + ", due is " + want);
        }
    }

    void due(String call, boolean got, boolean want) {
        due(call, got ? 1 : 0, want ? 1 : 0);
    }

    /** Ends the program, with exit code 1 if an answer was not as due. */
    void close(String name) {
        System.out.println(name + ": " + asked + " answers, " + wrong + " not as due");
        System.exit(wrong == 0 ? 0 : 1);
    }

    static void put(OpenGraves x, String text) {
        put(x, text.getBytes(StandardCharsets.ISO_8859_1));
    }

    static void put(OpenGraves x, int... octets) {
        byte[] bytes = new byte[octets.length];
        for (int k = 0; k < octets.length; k++) {
            bytes[k] = (byte) octets[k];
        }
        put(x, bytes);
    }

    static void put(OpenGraves x, byte[] bytes) {
        x.end(0);
        for (int k = 0; k < bytes.length; k += 20) {
            x.feed(word(bytes, k), word(bytes, k + 4), word(bytes, k + 8), word(bytes, k + 12), word(bytes, k + 16));
        }
        x.end(bytes.length);
    }

    static int word(byte[] bytes, int from) {
        int word = 0;
        for (int k = from; k < from + 4; k++) {
            word = word << 8 | (k < bytes.length ? bytes[k] & 255 : 0);
        }
        return word;
    }

    static OpenGraves told(String parish) {
        OpenGraves x = new OpenGraves();
        put(x, parish);
        x.parish();
        return x;
    }

    /** A new object with a parish that must be without a fault. */
    OpenGraves good(String parish, int statements) {
        OpenGraves x = new OpenGraves();
        put(x, parish);
        due("parish() of <" + parish + ">", x.parish(), statements);
        due("fault(0) of <" + parish + ">", x.fault(0), 0);
        due("fault(1) of <" + parish + ">", x.fault(1), OpenGraves.NONE);
        return x;
    }

    /** A parish with a fault of this kind, at the place that ^ marks in the text. */
    void bad(int kind, String marked) {
        parishFault(marked.replace("^", ""), kind, marked.indexOf('^'));
    }

    /** A question with a fault of this kind, at the place that ^ marks in the text. */
    void badQuestion(OpenGraves x, int kind, String marked) {
        questionFault(x, marked.replace("^", ""), kind, marked.indexOf('^'));
    }

    /** Months without draws until this one. */
    static void advance(OpenGraves x, int month) {
        while (x.has(2) < month) {
            x.months(Math.min(100, month - x.has(2)));
        }
    }

    static int[] imageOf(OpenGraves x) {
        int[] all = new int[x.image()];
        for (int k = 0; k < all.length; k++) {
            all[k] = x.octet(k);
        }
        return all;
    }

    /** The bytes with the last one of an image behind them. */
    static int[] sealed(int... octets) {
        int[] all = Arrays.copyOf(octets, octets.length + 1);
        int c = 241;
        for (int octet : octets) {
            c = (3 * c + octet) % 251;
        }
        all[octets.length] = c;
        return all;
    }

    static boolean goesOn(OpenGraves x, int... octets) {
        put(x, octets);
        return x.on();
    }

    static int sees(OpenGraves x, int... octets) {
        put(x, octets);
        return x.see();
    }

    /** All that can be read of graves, people and what is kept, seen and can be undone; some hundred calls. */
    static String state(OpenGraves x) {
        StringBuilder s = new StringBuilder();
        for (int what = 0; what <= 8; what++) {
            s.append(x.has(what)).append(' ');
        }
        for (int g = 0; g < x.has(0); g++) {
            for (int what = 0; what < 5; what++) {
                s.append(x.grave(g, what)).append(' ');
            }
        }
        for (int p = 0; p < x.has(1); p++) {
            for (int what = 0; what < 4; what++) {
                s.append(x.person(p, what)).append(' ');
            }
        }
        for (int k = 0; k < x.has(6); k++) {
            for (int what = 0; what < 4; what++) {
                s.append(x.kept(k, what)).append(' ');
            }
        }
        return s.toString();
    }

    void same(String what, int[] got, int... want) {
        due(what + ": size", got.length, want.length);
        for (int k = 0; k < got.length && k < want.length; k++) {
            due(what + ": octet " + k, got[k], want[k]);
        }
    }

    static long ask(OpenGraves x, String question) {
        put(x, question);
        return x.ask();
    }

    void parishFault(String text, int kind, int place) {
        OpenGraves x = new OpenGraves();
        put(x, text);
        int statements = x.parish();
        due("parish() of <" + text + "> refused", statements == OpenGraves.NONE, kind != 0);
        due("fault(0) of <" + text + ">", x.fault(0), kind);
        due("fault(1) of <" + text + ">", x.fault(1), place);
        due("status(1) of <" + text + ">", x.status(1), kind != 0 ? 1 : 0);
    }

    void questionFault(OpenGraves x, String text, int kind, int place) {
        int refused = x.status(1);
        long answer = ask(x, text);
        due("ask() of <" + text + "> is not counted as refused", x.status(1), refused);
        due("ask() of <" + text + "> is NOTHING", answer == OpenGraves.NOTHING, kind != 0);
        due("fault(0) of <" + text + ">", x.fault(0), kind);
        due("fault(1) of <" + text + ">", x.fault(1), place);
    }
}

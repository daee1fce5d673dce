import java.nio.charset.StandardCharsets;

/** What the tests share: comparing answers, putting texts on the tape. */
final class Check {
    private int wrong;
    private int asked;

    void due(String call, long got, long want) {
        asked++;
        if (got != want) {
            wrong++;
            System.out.println(call + " answered " + got + ", due is " + want);
        }
    }

    void due(String call, boolean got, boolean want) {
        due(call, got ? 1 : 0, want ? 1 : 0);
    }

    /** Ends the program, with exit code 1 if an answer was not as due. */
    void close(String name) {
        System.out.println(name + ": " + asked + " answers, " + wrong + " not as due");
        System.exit(wrong == 0 ? 0 : 1);
    }

    static void put(OpenGraves x, String text) {
        put(x, text.getBytes(StandardCharsets.ISO_8859_1));
    }

    static void put(OpenGraves x, int... octets) {
        byte[] bytes = new byte[octets.length];
        for (int k = 0; k < octets.length; k++) {
            bytes[k] = (byte) octets[k];
        }
        put(x, bytes);
    }

    static void put(OpenGraves x, byte[] bytes) {
        x.end(0);
        for (int k = 0; k < bytes.length; k += 20) {
            x.feed(word(bytes, k), word(bytes, k + 4), word(bytes, k + 8), word(bytes, k + 12), word(bytes, k + 16));
        }
        x.end(bytes.length);
    }

    static int word(byte[] bytes, int from) {
        int word = 0;
        for (int k = from; k < from + 4; k++) {
            word = word << 8 | (k < bytes.length ? bytes[k] & 255 : 0);
        }
        return word;
    }

    static OpenGraves told(String parish) {
        OpenGraves x = new OpenGraves();
        put(x, parish);
        x.parish();
        return x;
    }

    static long ask(OpenGraves x, String question) {
        put(x, question);
        return x.ask();
    }

    void parishFault(String text, int kind, int place) {
        OpenGraves x = new OpenGraves();
        put(x, text);
        int statements = x.parish();
        due("parish() of <" + text + "> refused", statements == OpenGraves.NONE, kind != 0);
        due("fault(0) of <" + text + ">", x.fault(0), kind);
        due("fault(1) of <" + text + ">", x.fault(1), place);
    }

    void questionFault(OpenGraves x, String text, int kind, int place) {
        long answer = ask(x, text);
        due("ask() of <" + text + "> is NOTHING", answer == OpenGraves.NOTHING, kind != 0);
        due("fault(0) of <" + text + ">", x.fault(0), kind);
        due("fault(1) of <" + text + ">", x.fault(1), place);
    }
}

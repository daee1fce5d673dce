import java.io.IOException;
import java.nio.file.Files;
import java.nio.file.Path;
import java.util.regex.Matcher;
import java.util.regex.Pattern;

/** What a reader can check of the rules of LANGUAGE.md in the program's text. */
public final class LanguageTest {
    private static int wrong;

    public static void main(String[] args) throws IOException {
        String source = Files.readString(Path.of("src/main/java/OpenGraves.java"));
        String code = source.replaceAll("(?s)/\\*.*?\\*/", "").replaceAll("//[^\n]*", "");
        code = code.replaceAll("\"[^\"]*\"", "\"\"");
        for (String word : new String[] {"throw", "throws", "try", "catch", "finally", "synchronized", "assert", "import",
            "package", "float", "double", "transient", "volatile", "native", "hashCode", "toString", "null", "var"}) {
            refuse(code, "\\b" + word + "\\b");
        }
        refuse(code, "->");
        refuse(code, "::");
        refuse(code, "\"\\s*\\+|\\+\\s*\"");
        refuse(code, "static\\s*\\{");
        refuse(code, "static (?!final\\b)(?!class\\b)\\w+(\\[\\])? \\w+\\s*[=;]");
        refuse(code, "\\w+Exact\\b");
        // nothing is made but in constructors: what calls make would stay in the one room of a run
        Matcher made = Pattern.compile("\n( +)(\\S.*)?\\bnew\\b").matcher(code);
        int count = 0;
        while (made.find()) {
            count++;
            String head = lastHead(code.substring(0, made.start()));
            if (!head.matches("\\s*(public )?[A-Z]\\w*\\(.*\\) \\{")) {
                tell("made outside a constructor: " + made.group().trim() + " under " + head.trim());
            }
        }
        if (count == 0) {
            tell("no place found where something is made");
        }
        methodsStayShort(code);
        System.out.println("LanguageTest: " + wrong + " not as due");
        System.exit(wrong == 0 ? 0 : 1);
    }

    /** The nearest line above that is indented as the head of a method or constructor is. */
    private static String lastHead(String ahead) {
        String[] lines = ahead.split("\n");
        for (int k = lines.length - 1; k >= 0; k--) {
            if (lines[k].matches("( {4}| {8})\\S[^=;]*\\(.*\\) \\{") && !lines[k].trim().matches("(for|if|while|switch) .*")) {
                return lines[k];
            }
        }
        return "";
    }

    private static void methodsStayShort(String code) {
        String[] lines = code.split("\n");
        int head = 0;
        for (int k = 0; k < lines.length; k++) {
            if (lines[k].matches("( {4}| {8})\\S[^=;]*\\(.*\\) \\{")) {
                head = k;
                if (lines[k].replaceAll("[^,]", "").length() > 6) {
                    tell("more than seven parameters: " + lines[k].trim());
                }
            }
            if (lines[k].matches(" {4,8}\\}") && k - head > 60) {
                tell("longer than sixty lines: " + lines[head].trim());
                head = k;
            }
        }
    }

    private static void refuse(String code, String pattern) {
        Matcher m = Pattern.compile(pattern).matcher(code);
        while (m.find()) {
            tell("not in the language: " + m.group());
        }
    }

    private static void tell(String what) {
        wrong++;
        System.out.println(what);
    }
}

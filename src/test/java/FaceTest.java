import java.lang.reflect.Constructor;
import java.lang.reflect.Field;
import java.lang.reflect.Method;
import java.lang.reflect.Modifier;
import java.util.Set;
import java.util.TreeSet;

/** The class has the document's face and nothing else that can be seen. */
public final class FaceTest {
    private static final String[] FACE = {
        "int feed(int,int,int,int,int)", "boolean end(int)", "int parish()", "int fault(int)", "int has(int)",
        "int letter(int,int,int)", "int grave(int,int)", "int person(int,int)", "long counts(int,int)", "int next(int)",
        "int kept(int,int)", "int later(int,int)", "int filled(int)", "int taken(int)", "int row(int)",
        "int persuade(int)", "int enemy(int,int)", "long odds(int)", "int see()", "int wills(int)",
        "int tells(int,int)", "int dig(int)", "boolean fill(int,int)", "boolean talk(int,int)", "int months(int)",
        "int chance(int)", "boolean undo()", "boolean seed(int)", "long ask()", "int image()", "int octet(int)",
        "boolean on()", "int status(int)", "public OpenGraves()", "int NONE", "long NOTHING"};

    public static void main(String[] args) {
        Set<String> want = new TreeSet<>(Set.of(FACE));
        Set<String> got = new TreeSet<>();
        Set<String> names = new TreeSet<>();
        int wrong = 0;
        for (Method m : OpenGraves.class.getDeclaredMethods()) {
            if (!Modifier.isPrivate(m.getModifiers()) && !m.isSynthetic()) {
                StringBuilder s = new StringBuilder(m.getReturnType() + " " + m.getName() + "(");
                for (Class<?> c : m.getParameterTypes()) {
                    s.append(s.charAt(s.length() - 1) == '(' ? "" : ",").append(c);
                }
                got.add(s + ")");
                names.add(m.getName());
            }
        }
        for (Field f : OpenGraves.class.getDeclaredFields()) {
            if (!Modifier.isPrivate(f.getModifiers())) {
                got.add(f.getType() + " " + f.getName());
            }
        }
        for (Constructor<?> c : OpenGraves.class.getDeclaredConstructors()) {
            got.add(c.toString());
        }
        if (!got.equals(want)) {
            wrong++;
            System.out.println("the face is " + got + ", due is " + want);
        }
        for (Class<?> inside : OpenGraves.class.getDeclaredClasses()) {
            for (Method m : inside.getDeclaredMethods()) {
                if (names.contains(m.getName())) {
                    wrong++;
                    System.out.println(m + " bears the name of a public method");
                }
            }
            if (!Modifier.isStatic(inside.getModifiers()) || Modifier.isPublic(inside.getModifiers())) {
                wrong++;
                System.out.println(inside + " is not private and static");
            }
        }
        if (OpenGraves.NONE != -1 || OpenGraves.NOTHING != -1000000000000000L) {
            wrong++;
            System.out.println("a constant is not as due");
        }
        System.out.println("FaceTest: " + wrong + " not as due");
        System.exit(wrong == 0 ? 0 : 1);
    }
}

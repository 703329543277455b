import java.lang.reflect.Constructor;
import java.lang.reflect.Field;
import java.lang.reflect.Method;
import java.lang.reflect.Modifier;
import java.nio.file.Files;
import java.nio.file.Path;
import java.util.Set;
import java.util.TreeSet;

/** The public face, and the rules of LANGUAGE.md that can be looked up in the class and its text. */
public final class FaceTest {
    private static final Set<String> METHODS = Set.of(
            "boolean add(int,int,int,int)", "boolean cut(int,int)", "int check(int)", "boolean start(int)",
            "boolean stop(int)", "int step(int)", "int run(int,int)", "boolean put(int,int)", "int value(int)",
            "int version(int)", "int commits()", "int state(int)", "int place(int)", "int register(int,int)",
            "int sees(int,int)", "int log(int)", "int waiting(int)", "int discards(int)", "int outcome()",
            "int printed(int)");
    private static final Set<String> CONSTANTS = Set.of("IDLE", "READY", "PARKED", "DONE", "FAILED");

    public static void main(String[] args) throws Exception {
        classAndConstructor();
        methods();
        fields();
        classesInside();
        text();
        Check.end();
    }

    private static void classAndConstructor() {
        int flags = AtomicThreads.class.getModifiers();
        Check.yes("public final", Modifier.isPublic(flags) && Modifier.isFinal(flags));
        Constructor<?>[] all = AtomicThreads.class.getDeclaredConstructors();
        Check.same("constructors", all.length, 1);
        Check.yes("the constructor", Modifier.isPublic(all[0].getModifiers()) && all[0].getParameterCount() == 0);
    }

    private static String described(Method method) {
        StringBuilder text = new StringBuilder();
        text.append(method.getReturnType().getName()).append(' ').append(method.getName()).append('(');
        String comma = "";
        for (Class<?> type : method.getParameterTypes()) {
            text.append(comma).append(type.getName());
            comma = ",";
        }
        return text.append(')').toString();
    }

    private static void methods() {
        Set<String> seen = new TreeSet<>();
        Set<String> names = new TreeSet<>();
        for (String method : METHODS) {
            names.add(method.substring(method.indexOf(' ') + 1, method.indexOf('(')));
        }
        for (Method method : AtomicThreads.class.getDeclaredMethods()) {
            boolean isPrivate = Modifier.isPrivate(method.getModifiers());
            Check.same("private " + method.getName(), isPrivate ? 1 : 0, names.contains(method.getName()) ? 0 : 1);
            Check.yes("parameters of " + method.getName(), method.getParameterCount() <= 7);
            if (!isPrivate) {
                Check.yes("public " + method.getName(), Modifier.isPublic(method.getModifiers()));
                seen.add(described(method));
            }
        }
        Check.yes("the face is " + METHODS + ", found " + seen, seen.equals(METHODS));
    }

    private static void fields() {
        int constants = 0;
        for (Field field : AtomicThreads.class.getDeclaredFields()) {
            int flags = field.getModifiers();
            if (CONSTANTS.contains(field.getName())) {
                constants++;
                Check.yes("constant " + field, Modifier.isPublic(flags) && Modifier.isStatic(flags)
                        && Modifier.isFinal(flags) && field.getType() == int.class);
            } else {
                Check.yes("private " + field, Modifier.isPrivate(flags));
                Check.yes("final " + field, !Modifier.isStatic(flags) || Modifier.isFinal(flags));
            }
        }
        Check.same("constants", constants, CONSTANTS.size());
    }

    private static void classesInside() {
        Class<?>[] inside = AtomicThreads.class.getDeclaredClasses();
        Check.yes("classes", inside.length < 12);
        for (Class<?> one : inside) {
            Check.yes("static " + one, Modifier.isStatic(one.getModifiers()));
            Check.no("public " + one, Modifier.isPublic(one.getModifiers()) || Modifier.isProtected(one.getModifiers()));
            Check.yes("fields of " + one, one.getDeclaredFields().length <= 20);
        }
    }

    private static void text() throws Exception {
        String text = Files.readString(Path.of("src/main/java/AtomicThreads.java"));
        String[] words = {"throw", "throws", "try", "catch", "synchronized", "assert", "import", "package"};
        for (String word : words) {
            Check.no("the text has the word " + word, text.matches("(?s).*\\b" + word + "\\b.*"));
        }
        Check.no("lambdas, method references", text.contains("->") || text.contains("::"));
        for (int i = 0; i < text.length(); i++) {
            if (text.charAt(i) > 126) {
                Check.same("character", text.charAt(i), 0);
            }
        }
    }
}

import java.lang.reflect.Method;
import java.lang.reflect.Modifier;
import java.nio.file.Files;
import java.nio.file.Path;
import java.util.ArrayList;
import java.util.Arrays;
import java.util.List;
import java.util.Set;
import java.util.TreeSet;
import java.util.regex.Matcher;
import java.util.regex.Pattern;

/** The README tells every call of the face, and its example tells the answers that the class gives. */
public final class ReadmeTest {
    private static final String FIRST = "AtomicThreads x = new AtomicThreads();";
    private static final Pattern CALL = Pattern.compile("x\\.(\\w+)\\(([^)]*)\\); +// (true|false|-?\\d+)(: .+)?");

    public static void main(String[] args) throws Exception {
        List<String> lines = Files.readAllLines(Path.of("README.md"));
        Set<String> used = example(javaBlock(lines));
        for (Method method : AtomicThreads.class.getDeclaredMethods()) {
            if (Modifier.isPublic(method.getModifiers())) {
                Check.yes("the example uses " + method.getName(), used.contains(method.getName()));
                Check.yes("a row tells " + method, lines.stream().anyMatch(line -> isRowOf(line, method)));
            }
        }
        Check.end();
    }

    private static List<String> javaBlock(List<String> lines) {
        int from = lines.indexOf("```java") + 1;
        Check.yes("the README has an example", from > 0);
        List<String> block = new ArrayList<>();
        for (int i = from; i < lines.size() && !lines.get(i).equals("```"); i++) {
            if (!lines.get(i).isBlank()) {
                block.add(lines.get(i));
            }
        }
        return block;
    }

    /** Makes the calls of the example and answers the names of those that were made. */
    private static Set<String> example(List<String> block) throws Exception {
        Check.text("the example's first line", block.get(0), FIRST);
        AtomicThreads x = new AtomicThreads();
        Set<String> used = new TreeSet<>();
        for (String line : block.subList(1, block.size())) {
            Matcher call = CALL.matcher(line);
            boolean isCall = call.matches();
            Check.yes("a call and its answer: " + line, isCall);
            if (isCall) {
                used.add(call.group(1));
                Check.text(line, answer(x, call.group(1), numbers(call.group(2))), call.group(3));
            }
        }
        return used;
    }

    private static Object[] numbers(String text) {
        return text.isEmpty() ? new Object[0] : Arrays.stream(text.split(", ")).map(Integer::decode).toArray();
    }

    private static String answer(AtomicThreads x, String name, Object[] numbers) throws Exception {
        Class<?>[] types = new Class<?>[numbers.length];
        Arrays.fill(types, int.class);
        return String.valueOf(AtomicThreads.class.getMethod(name, types).invoke(x, numbers));
    }

    private static boolean isRowOf(String line, Method method) {
        String start = "| `" + method.getReturnType() + " " + method.getName() + "(";
        return line.startsWith(start) && line.split("int [a-z]+[,)]", -1).length == method.getParameterCount() + 1;
    }
}

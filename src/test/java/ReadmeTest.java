import java.io.File;
import java.io.IOException;
import java.lang.reflect.Method;
import java.nio.file.Files;
import java.nio.file.Path;
import java.util.Set;
import java.util.TreeSet;
import java.util.regex.Matcher;
import java.util.regex.Pattern;

/** README.md: its calls answer what stands behind them, and it names every test. */
public final class ReadmeTest {
    private static final Pattern CALL = Pattern.compile("bench\\.(\\w+)\\((.*?)\\); *// (-?\\d+)(:.*)?");
    private static final Due due = new Due();

    public static void main(String[] args) throws IOException, ReflectiveOperationException {
        String text = Files.readString(Path.of("README.md"));
        PieceMoulds bench = new PieceMoulds();
        Set<String> called = new TreeSet<>();
        for (String line : text.split("\n")) {
            Matcher call = CALL.matcher(line);
            if (call.matches()) {
                called.add(call.group(1));
                due.is(line, answer(bench, call.group(1), call.group(2)), Integer.parseInt(call.group(3)));
            } else if (line.startsWith("bench.")) {
                due.fails("no answer behind " + line);
            }
        }
        for (Method method : PieceMoulds.class.getMethods()) {
            if (method.getDeclaringClass() == PieceMoulds.class) {
                due.is("calls " + method.getName() + "()", called.contains(method.getName()) ? 1 : 0, 1);
            }
        }
        namesEveryTest(text);
        due.end();
    }

    private static int answer(PieceMoulds bench, String name, String list) throws ReflectiveOperationException {
        String[] words = list.isEmpty() ? new String[0] : list.split(", ");
        Class<?>[] types = new Class<?>[words.length];
        Object[] numbers = new Object[words.length];
        for (int i = 0; i < words.length; i++) {
            types[i] = int.class;
            numbers[i] = Integer.decode(words[i]);
        }
        return (Integer) PieceMoulds.class.getMethod(name, types).invoke(bench, numbers);
    }

    private static void namesEveryTest(String text) {
        String[] files = new File("src/test/java").list();
        due.is("src/test/java is there", files == null ? 0 : 1, 1);
        for (String file : files == null ? new String[0] : files) {
            String name = "`" + file.replace(".java", "") + "`";
            due.is("names " + name, text.contains(name) ? 1 : 0, 1);
        }
    }
}

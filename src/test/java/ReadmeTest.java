import java.io.IOException;
import java.lang.reflect.Method;
import java.lang.reflect.Modifier;
import java.nio.file.Files;
import java.nio.file.Path;
import java.util.regex.Matcher;
import java.util.regex.Pattern;

/** Whether README.md tells the truth: its example answers what stands behind each row, and it names each call. */
public final class ReadmeTest {
    private static final Check CHECK = new Check();
    private static final Pattern ROW = Pattern.compile("^x\\.(\\w+)\\((.*?)\\);\\s*// (-?\\d+).*$", Pattern.MULTILINE);

    private ReadmeTest() {
    }

    public static void main(String[] args) throws IOException, ReflectiveOperationException {
        String readme = Files.readString(Path.of("README.md"));
        example(readme);
        calls(readme);
        CHECK.end();
    }

    private static void example(String readme) throws ReflectiveOperationException {
        CHECK.begin("README's example");
        CircuitCells x = new CircuitCells();
        int rows = 0;
        for (Matcher row = ROW.matcher(readme); row.find(); rows++) {
            CHECK.is(row.group(), answer(x, row.group(1), row.group(2)), Integer.parseInt(row.group(3)));
        }
        CHECK.is("rows of calls", rows, Pattern.compile("^x\\.", Pattern.MULTILINE).matcher(readme).results().count());
        CHECK.is("there are some", rows > 0, true);
    }

    private static int answer(CircuitCells x, String name, String list) throws ReflectiveOperationException {
        String[] texts = list.isEmpty() ? new String[0] : list.split(", ");
        Class<?>[] types = new Class<?>[texts.length];
        Object[] numbers = new Object[texts.length];
        for (int i = 0; i < texts.length; i++) {
            types[i] = int.class;
            numbers[i] = Integer.decode(texts[i]);
        }
        return (Integer) CircuitCells.class.getDeclaredMethod(name, types).invoke(x, numbers);
    }

    private static void calls(String readme) {
        CHECK.begin("README's list");
        for (Method method : CircuitCells.class.getDeclaredMethods()) {
            if (Modifier.isPublic(method.getModifiers())) {
                CHECK.is(method.getName(), readme.contains("`" + method.getName() + "`"), true);
            }
        }
    }
}

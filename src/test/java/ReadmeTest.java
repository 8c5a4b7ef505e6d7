import java.io.IOException;
import java.lang.reflect.Method;
import java.nio.charset.StandardCharsets;
import java.nio.file.DirectoryStream;
import java.nio.file.Files;
import java.nio.file.Path;
import java.util.regex.Matcher;
import java.util.regex.Pattern;

/** README.md tells what is so: the answers of its calls, the classes inside, the tests. */
public final class ReadmeTest {
    private static final Check CHECK = new Check("ReadmeTest");
    private static final Pattern TELL = Pattern.compile("tell\\(lent, \"([^\"]*)\"\\);");
    private static final Pattern CALL = Pattern.compile("lent\\.(\\w+)\\(([-\\d, ]*)\\);\\s*// (-?\\d+|true|false)(:.*)?");

    public static void main(String[] args) throws IOException, ReflectiveOperationException {
        String readme = Files.readString(Path.of("README.md"), StandardCharsets.UTF_8);
        answers(readme.split("\n"));
        for (Class<?> inner : OnlyLent.class.getDeclaredClasses()) {
            CHECK.due("the class " + inner.getSimpleName() + " is named",
                Pattern.compile("\n\\|[\\w, ]*\\b" + inner.getSimpleName() + "\\b[\\w, ]*\\|").matcher(readme).find(), true);
        }
        try (DirectoryStream<Path> tests = Files.newDirectoryStream(Path.of("src/test/java"), "*Test.java")) {
            for (Path test : tests) {
                String name = test.getFileName().toString().replace(".java", "");
                CHECK.due("the test " + name + " is named", readme.contains("\n- `" + name), true);
            }
        }
        CHECK.finish();
    }

    /** All calls of the page are of one object, in their order. */
    private static void answers(String[] lines) throws ReflectiveOperationException {
        OnlyLent lent = new OnlyLent();
        int calls = 0;
        for (String line : lines) {
            Matcher tell = TELL.matcher(line);
            Matcher call = CALL.matcher(line);
            if (tell.matches()) {
                Check.feed(lent, tell.group(1));
            } else if (call.matches()) {
                String got = String.valueOf(answer(lent, call.group(1), call.group(2)));
                CHECK.due(line + " (it answers " + got + ")", got.equals(call.group(3)), true);
                calls++;
            } else {
                CHECK.due("a call without an answer: " + line, line.startsWith("lent."), false);
            }
        }
        CHECK.due("calls that are told: " + calls, calls >= 20, true);
    }

    private static Object answer(OnlyLent lent, String name, String told) throws ReflectiveOperationException {
        String[] numbers = told.isEmpty() ? new String[0] : told.split(", ");
        Object[] arguments = new Object[numbers.length];
        Class<?>[] types = new Class<?>[numbers.length];
        for (int i = 0; i < numbers.length; i++) {
            arguments[i] = Integer.parseInt(numbers[i]);
            types[i] = int.class;
        }
        Method method = OnlyLent.class.getMethod(name, types);
        return method.invoke(lent, arguments);
    }
}

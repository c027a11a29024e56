import java.io.IOException;
import java.lang.reflect.InvocationTargetException;
import java.lang.reflect.Method;
import java.lang.reflect.Modifier;
import java.nio.file.DirectoryStream;
import java.nio.file.Files;
import java.nio.file.Path;
import java.util.regex.Matcher;
import java.util.regex.Pattern;

/** What README.md says of the class is so; run from the project's folder. */
public final class ReadmeTest {
    /** A call of the example with the answer told behind it. */
    private static final Pattern CALL = Pattern.compile("(?m)^x\\.(\\w+)\\((.*?)\\);\\s*// (-?\\d+|true|false)\\b");

    public static void main(String[] args) throws IOException, ReflectiveOperationException {
        Check check = new Check();
        String readme = Files.readString(Path.of("README.md"));
        theExample(check, block(readme, "java"));
        theText(check, block(readme, "text"));
        allCallsAreNamed(check, readme);
        allTestsAreNamed(check, readme);
        check.end();
    }

    private static String block(String readme, String kind) {
        Matcher found = Pattern.compile("(?s)```" + kind + "\n(.*?)```").matcher(readme);
        return found.find() ? found.group(1) : "";
    }

    private static void theExample(Check check, String example) throws ReflectiveOperationException {
        StreetTube x = new StreetTube();
        Matcher call = CALL.matcher(example);
        int calls = 0;
        while (call.find()) {
            check.due(call.group(), answer(x, call.group(1), call.group(2)).equals(call.group(3)), true);
            calls++;
        }
        check.due("calls of the example", calls, example.lines().filter(line -> line.startsWith("x.")).count());
        check.due("there are some", calls > 10, true);
    }

    private static String answer(StreetTube x, String name, String numbers) throws ReflectiveOperationException {
        Method method = method(name);
        String[] told = numbers.isEmpty() ? new String[0] : numbers.split(", ");
        Object[] given = new Object[told.length];
        for (int i = 0; i < told.length; i++) {
            given[i] = Integer.parseInt(told[i]);
        }
        try {
            return String.valueOf(method.invoke(x, given));
        } catch (InvocationTargetException e) {
            return "throws " + e.getCause();
        }
    }

    private static Method method(String name) throws NoSuchMethodException {
        for (Method method : StreetTube.class.getDeclaredMethods()) {
            if (method.getName().equals(name)) {
                return method;
            }
        }
        throw new NoSuchMethodException(name);
    }

    /** The text shows each sort of LINE; a line's end in README.md stands for a blank. */
    private static void theText(Check check, String text) {
        StreetTube x = check.told(text.strip().replace('\n', ' '), 2);
        int[] sizes = {3, 4, 50, 2, 1, 1, 2, 1, 1};
        for (int what = 0; what < sizes.length; what++) {
            check.due("size(" + what + ") of the text in README.md", x.size(what), sizes[what]);
        }
    }

    private static void allCallsAreNamed(Check check, String readme) {
        for (Method method : StreetTube.class.getDeclaredMethods()) {
            if (Modifier.isPublic(method.getModifiers())) {
                String row = "(?m)^\\|.*`" + method.getName() + "`.*\\|$";
                check.due(method.getName() + " has a row", Pattern.compile(row).matcher(readme).find(), true);
            }
        }
    }

    private static void allTestsAreNamed(Check check, String readme) throws IOException {
        try (DirectoryStream<Path> tests = Files.newDirectoryStream(Path.of("src/test/java"), "*Test.java")) {
            for (Path test : tests) {
                String name = test.getFileName().toString().replace(".java", "");
                check.due(name + " has a row", readme.contains("| " + name + " |"), true);
            }
        }
    }
}

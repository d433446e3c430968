import java.io.IOException;
import java.lang.reflect.Method;
import java.lang.reflect.Modifier;
import java.nio.file.Files;
import java.nio.file.Path;
import java.util.regex.Matcher;
import java.util.regex.Pattern;

/** README.md: its example answers what it says, and it names every public call and every test. */
public final class ReadmeTest {
    private static final Pattern CALL = Pattern.compile("solid\\.(\\w+)\\(([^)]*)\\);(?:\\s*// (-?\\w+)\\b.*)?");
    private static int wrong = 0;

    private static void fault(String text) {
        wrong++;
        System.out.println(text);
    }

    private static Method method(String name) {
        for (Method method : SolidRows.class.getDeclaredMethods()) {
            if (method.getName().equals(name)) {
                return method;
            }
        }
        return null;
    }

    private static Object[] numbers(String text) {
        if (text.isBlank()) {
            return new Object[0];
        }
        String[] parts = text.split(",");
        Object[] numbers = new Object[parts.length];
        for (int k = 0; k < parts.length; k++) {
            numbers[k] = Integer.valueOf(parts[k].trim());
        }
        return numbers;
    }

    /** Does the example's calls in their order, and compares those behind which an answer stands. */
    private static void example(String readme) throws ReflectiveOperationException {
        SolidRows solid = new SolidRows();
        int compared = 0;
        Matcher matcher = CALL.matcher(readme);
        while (matcher.find()) {
            Method method = method(matcher.group(1));
            if (method == null) {
                fault("no such call: " + matcher.group());
                continue;
            }
            String got = String.valueOf(method.invoke(solid, numbers(matcher.group(2))));
            String want = matcher.group(3);
            String nothing = String.valueOf(SolidRows.NOTHING);
            if (want != null && !got.equals(want.equals("NOTHING") ? nothing : want)) {
                fault(matcher.group() + " answered " + got);
            }
            compared += want == null ? 0 : 1;
        }
        if (compared < 8) {
            fault("only " + compared + " answers of the example were found");
        }
    }

    private static void names(String readme) throws IOException {
        for (Method method : SolidRows.class.getDeclaredMethods()) {
            boolean open = Modifier.isPublic(method.getModifiers());
            if (open && !readme.contains("`" + method.getName() + "(")) {
                fault("README.md does not tell of " + method.getName());
            }
        }
        try (var tests = Files.list(Path.of("src/test/java"))) {
            tests.map(test -> test.getFileName().toString().replace(".java", ""))
                .filter(name -> !readme.contains("`" + name + "`"))
                .forEach(name -> fault("README.md does not tell of " + name));
        }
    }

    public static void main(String[] args) throws IOException, ReflectiveOperationException {
        String readme = Files.readString(Path.of("README.md"));
        example(readme);
        names(readme);
        System.out.println(wrong == 0 ? "README.md tells what is" : wrong + " lines of README.md are wrong");
        if (wrong != 0) {
            System.exit(1);
        }
    }
}

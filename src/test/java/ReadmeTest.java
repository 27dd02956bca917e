import java.lang.reflect.Method;
import java.lang.reflect.Modifier;
import java.nio.file.Files;
import java.nio.file.Path;
import java.util.List;
import java.util.regex.Matcher;
import java.util.regex.Pattern;
import java.util.stream.Stream;

/** README.md tells the truth: its example answers what it says, and it names every call and every test. */
public final class ReadmeTest {
    private static final Pattern CALL = Pattern.compile("x\\.(\\w+)\\(([^)]*)\\);\\s*// (-?[0-9]+)\\b.*");

    public static void main(String[] args) throws Exception {
        String page = Files.readString(Path.of("README.md"));
        example(page);
        namesEachCall(page);
        namesEachTest(page);
        Check.finish();
    }

    private static void example(String page) throws Exception {
        SweetWraps x = new SweetWraps();
        int calls = 0;
        for (String line : page.substring(page.indexOf("```java"), page.indexOf("```\n")).split("\n")) {
            if (!line.startsWith("x.")) continue;
            Matcher call = CALL.matcher(line);
            Check.due("\"" + line + "\" tells its answer", call.matches() ? 1 : 0, 1);
            if (!call.matches()) continue;
            Check.due(line, answer(x, call.group(1), call.group(2)), Long.parseLong(call.group(3)));
            calls++;
        }
        Check.due("the example has calls", calls > 0 ? 1 : 0, 1);
    }

    private static long answer(SweetWraps x, String name, String written) throws Exception {
        String[] texts = written.isEmpty() ? new String[0] : written.split(", ");
        for (Method method : SweetWraps.class.getMethods()) {
            if (!method.getName().equals(name) || method.getParameterCount() != texts.length) continue;
            Object[] arguments = new Object[texts.length];
            for (int i = 0; i < texts.length; i++) {
                long value = value(texts[i]);
                if (method.getParameterTypes()[i] == long.class) arguments[i] = value;
                else arguments[i] = Math.toIntExact(value);
            }
            return (Integer) method.invoke(x, arguments);
        }
        return Long.MIN_VALUE;
    }

    private static long value(String text) throws Exception {
        if (text.startsWith("SweetWraps.")) {
            return SweetWraps.class.getField(text.substring("SweetWraps.".length())).getInt(null);
        }
        return Long.decode(text.replaceFirst("L$", ""));
    }

    private static void namesEachCall(String page) {
        for (Method method : SweetWraps.class.getDeclaredMethods()) {
            if (!Modifier.isPublic(method.getModifiers())) continue;
            Check.due("names " + method.getName(), page.contains("`" + method.getName() + "`") ? 1 : 0, 1);
        }
    }

    private static void namesEachTest(String page) throws Exception {
        List<Path> tests;
        try (Stream<Path> files = Files.list(Path.of("src/test/java"))) {
            tests = files.sorted().toList();
        }
        for (Path test : tests) {
            String name = test.getFileName().toString().replace(".java", "");
            Check.due("names " + name, page.contains("`" + name + "`") ? 1 : 0, 1);
        }
    }
}

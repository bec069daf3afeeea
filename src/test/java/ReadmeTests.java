import java.io.File;
import java.io.IOException;
import java.lang.reflect.Method;
import java.nio.file.Files;
import java.nio.file.Path;
import java.util.regex.Matcher;
import java.util.regex.Pattern;

/** README.md tells how to use the class: each line of its example is put to an object, and answers what stands behind it. */
public final class ReadmeTests {
    private static final Pattern TYPED = Pattern.compile("for \\(char c : \"([^\"]*)\"\\.toCharArray\\(\\)\\) x\\.type\\(([01]), c\\); .*");
    private static final Pattern CALL = Pattern.compile("x\\.(\\w+)\\(([^)]*)\\); +// (-?\\d+): .*");
    private static final int LEAST_CALLS = 30;

    private static BreathBand x;
    private static int calls = 0;

    public static void main(String[] args) throws IOException, ReflectiveOperationException {
        String readme = Files.readString(Path.of("README.md"));
        for (String line : block(readme, "```java").split("\n")) {
            put(line);
        }
        Due.due("calls of the example are enough to show the class", 1, calls >= LEAST_CALLS ? 1 : 0);
        everyTestIsNamed(readme);
        Due.due("how to run the tests", 1, block(readme, "```sh").contains(".ci/run") ? 1 : 0);
        Due.end();
    }

    private static String block(String page, String fence) {
        int start = page.indexOf(fence);
        int end = page.indexOf("```", start + fence.length());
        return start < 0 || end < 0 ? "" : page.substring(start + fence.length(), end).trim();
    }

    private static void put(String line) throws ReflectiveOperationException {
        if (line.isEmpty() || line.startsWith("//")) {
            return;
        }
        Matcher typed = TYPED.matcher(line);
        Matcher call = CALL.matcher(line);
        if (line.equals("BreathBand x = new BreathBand();")) {
            x = new BreathBand();
        } else if (typed.matches()) {
            Due.tell(x, Integer.parseInt(typed.group(2)), typed.group(1));
        } else if (call.matches()) {
            Due.due("README.md: " + line, Long.parseLong(call.group(3)), answer(call.group(1), call.group(2)));
            calls++;
        } else {
            Due.due("README.md: a line that this test can read: " + line, 1, 0);
        }
    }

    private static long answer(String name, String told) throws ReflectiveOperationException {
        String[] words = told.isEmpty() ? new String[0] : told.split(", ");
        Class<?>[] types = new Class<?>[words.length];
        Object[] values = new Object[words.length];
        for (int i = 0; i < words.length; i++) {
            types[i] = int.class;
            values[i] = words[i].equals("BreathBand.NONE") ? BreathBand.NONE : Integer.parseInt(words[i]);
        }
        Method method = BreathBand.class.getMethod(name, types);
        return ((Number) method.invoke(x, values)).longValue();
    }

    private static void everyTestIsNamed(String readme) {
        File[] tests = new File("src/test/java").listFiles();
        Due.due("there are tests", 1, tests != null && tests.length > 0 ? 1 : 0);
        for (File test : tests == null ? new File[0] : tests) {
            String row = "| " + test.getName().replace(".java", "") + " |";
            Due.due("README.md has a row " + row, 1, readme.contains(row) ? 1 : 0);
        }
    }
}

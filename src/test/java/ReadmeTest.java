import java.io.IOException;
import java.lang.reflect.InvocationTargetException;
import java.lang.reflect.Method;
import java.lang.reflect.Modifier;
import java.nio.file.Files;
import java.nio.file.Path;
import java.util.regex.Matcher;
import java.util.regex.Pattern;

/** What README.md tells of the use of the class holds; it runs where README.md is. */
public final class ReadmeTest {
    private static final Pattern LINE = Pattern.compile("desk\\.(\\w+)\\((.*)\\); +// (-?\\d+): .*");

    public static void main(String[] args) throws IOException {
        String readme = Files.readString(Path.of("README.md"));
        eachLineOfTheExampleAnswersWhatIsWrittenBehindIt(readme);
        eachCallIsNamed(readme);
        howToRunTheTestsIsSaid(readme);
        Expect.finish();
    }

    private static void eachLineOfTheExampleAnswersWhatIsWrittenBehindIt(String readme) {
        int begin = readme.indexOf("```java\n");
        int end = readme.indexOf("```\n", begin + 1);
        String[] lines = begin < 0 || end < 0 ? new String[0] : readme.substring(begin, end).split("\n");
        Expect.same("README.md has an example", lines.length > 2 ? 1 : 0, 1);
        DescriptorDesk desk = new DescriptorDesk();
        for (int i = 2; i < lines.length; i++) {
            Matcher line = LINE.matcher(lines[i]);
            if (line.matches()) {
                long due = Long.parseLong(line.group(3));
                Expect.same(lines[i], answer(desk, line.group(1), line.group(2)), due);
            } else {
                Expect.tell("a line of README.md's example is no call with its answer: " + lines[i]);
            }
        }
    }

    private static long answer(DescriptorDesk desk, String name, String inBrackets) {
        String[] texts = inBrackets.isEmpty() ? new String[0] : inBrackets.split(", ");
        for (Method method : DescriptorDesk.class.getDeclaredMethods()) {
            if (Modifier.isPublic(method.getModifiers()) && method.getName().equals(name)) {
                return answer(desk, method, texts);
            }
        }
        throw new AssertionError("there is no call " + name);
    }

    private static long answer(DescriptorDesk desk, Method method, String[] texts) {
        Class<?>[] types = method.getParameterTypes();
        Object[] arguments = new Object[texts.length];
        for (int i = 0; i < texts.length; i++) {
            long number = number(texts[i]);
            arguments[i] = i < types.length && types[i] == long.class ? (Object) number : (Object) (int) number;
        }
        try {
            return ((Number) method.invoke(desk, arguments)).longValue();
        } catch (IllegalAccessException | InvocationTargetException e) {
            throw new AssertionError(e);
        }
    }

    /** A number as the example writes it: 3, -1, 0x6869L, or 2 | 8. */
    private static long number(String text) {
        long all = 0;
        for (String part : text.split(" \\| ")) {
            all |= Long.decode(part.replace("L", ""));
        }
        return all;
    }

    private static void eachCallIsNamed(String readme) {
        for (Method method : DescriptorDesk.class.getDeclaredMethods()) {
            if (Modifier.isPublic(method.getModifiers())) {
                String row = "| `" + method.getName() + "(";
                Expect.same("README.md has a row for " + method.getName(), readme.contains(row) ? 1 : 0, 1);
            }
        }
    }

    private static void howToRunTheTestsIsSaid(String readme) {
        Expect.same("README.md says how the tests are run", readme.contains("\n    .ci/run\n") ? 1 : 0, 1);
    }
}

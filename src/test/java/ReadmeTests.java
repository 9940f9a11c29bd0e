import java.io.IOException;
import java.lang.reflect.Method;
import java.nio.charset.StandardCharsets;
import java.nio.file.Files;
import java.nio.file.Path;
import java.util.Arrays;
import java.util.List;
import java.util.regex.Matcher;
import java.util.regex.Pattern;

/** The example that README.md tells answers as README.md tells. */
public final class ReadmeTests {
    private static final Pattern MADE = Pattern.compile("LitAgain x = new LitAgain\\(\\);");
    private static final Pattern FED = Pattern.compile("for \\(char c : \"(.*)\"\\.toCharArray\\(\\)\\) x\\.feed\\(c\\);");
    private static final Pattern ASKED = Pattern.compile("x\\.(\\w+)\\(([-0-9, ]*)\\); +// (-?\\d+)[:,].*");
    private static int looked = 0;
    private static int wrong = 0;

    private ReadmeTests() { }

    public static void main(String[] args) throws IOException, ReflectiveOperationException {
        LitAgain x = new LitAgain();
        for (String line : example(Files.readAllLines(Path.of("README.md"), StandardCharsets.UTF_8))) {
            if (MADE.matcher(line).matches()) {
                x = new LitAgain();
            } else {
                follow(x, line);
            }
        }
        if (looked == 0) fault("README.md tells no answer");
        System.out.println(looked + " answers of README.md looked at, " + wrong + " not as told");
        if (wrong != 0) System.exit(1);
    }

    private static List<String> example(List<String> lines) {
        int from = lines.indexOf("```java") + 1;
        List<String> rest = lines.subList(from, lines.size());
        return from == 0 ? List.of() : rest.subList(0, Math.max(0, rest.indexOf("```")));
    }

    private static void follow(LitAgain x, String line) throws ReflectiveOperationException {
        Matcher fed = FED.matcher(line);
        Matcher asked = ASKED.matcher(line);
        if (fed.matches()) {
            for (char letter : fed.group(1).toCharArray()) x.feed(letter);
        } else if (asked.matches()) {
            look(line, answer(x, asked.group(1), asked.group(2)), Long.parseLong(asked.group(3)));
        } else {
            fault("a line that is no call: " + line);
        }
    }

    private static long answer(LitAgain x, String name, String told) throws ReflectiveOperationException {
        String[] numbers = told.isBlank() ? new String[0] : told.split(", *");
        Class<?>[] types = new Class<?>[numbers.length];
        Arrays.fill(types, int.class);
        Object[] arguments = new Object[numbers.length];
        for (int i = 0; i < numbers.length; i++) arguments[i] = Integer.valueOf(numbers[i].trim());
        Method call = LitAgain.class.getMethod(name, types);
        return ((Number) call.invoke(x, arguments)).longValue();
    }

    private static void look(String line, long got, long told) {
        looked++;
        if (got != told) fault(line + " .. answered " + got);
    }

    private static void fault(String what) {
        wrong++;
        System.out.println(what);
    }
}

import java.io.IOException;
import java.lang.reflect.InvocationTargetException;
import java.nio.file.Files;
import java.nio.file.Path;
import java.util.ArrayList;
import java.util.Arrays;
import java.util.List;
import java.util.regex.Matcher;
import java.util.regex.Pattern;

/** README.md's examples: the calls and answers of the document's examples, which the class answers so. */
public final class ReadmeTest {
    private static final Pattern IN_README = Pattern.compile("reference\\.(\\w+)\\(([^)]*)\\);\\s*// (-?\\d+)");
    private static final Pattern IN_DOCUMENT = Pattern.compile("(\\w+)\\(([^)]*)\\)\\s+returns\\s+(-?\\d+)");

    /** A call, and the answer that is written behind it. */
    private record Step(String name, List<Integer> parameters, long answer) {
    }

    public static void main(String[] args) throws IOException {
        List<List<Step>> readme = examples("README.md", "(?s)```java\n(.*?)```", IN_README);
        List<List<Step>> document = examples("../shared/DOC.md", "(?s)Example \\d+:(.*?)\n\n", IN_DOCUMENT);
        Check.due("examples in the document", document.size(), 5);
        Check.holds("README.md has the document's examples: " + readme, readme.equals(document));
        for (List<Step> example : readme) {
            play(example);
        }
        Check.end();
    }

    private static List<List<Step>> examples(String file, String part, Pattern call) throws IOException {
        List<List<Step>> examples = new ArrayList<>();
        Matcher parts = Pattern.compile(part).matcher(Files.readString(Path.of(file)));
        while (parts.find()) {
            List<Step> steps = new ArrayList<>();
            Matcher calls = call.matcher(parts.group(1));
            while (calls.find()) {
                steps.add(new Step(calls.group(1), numbers(calls.group(2)), Long.parseLong(calls.group(3))));
            }
            examples.add(steps);
        }
        return examples;
    }

    private static List<Integer> numbers(String text) {
        List<Integer> numbers = new ArrayList<>();
        for (String number : text.isEmpty() ? new String[0] : text.split(",\\s*")) {
            numbers.add(Integer.parseInt(number));
        }
        return numbers;
    }

    private static void play(List<Step> example) {
        InertialReference reference = new InertialReference();
        for (Step step : example) {
            Check.due("README.md: " + step.name() + step.parameters(), answer(reference, step), step.answer());
        }
    }

    private static long answer(InertialReference reference, Step step) {
        Class<?>[] types = new Class<?>[step.parameters().size()];
        Arrays.fill(types, int.class);
        try {
            Object answer = InertialReference.class.getMethod(step.name(), types)
                    .invoke(reference, step.parameters().toArray());
            return ((Number) answer).longValue();
        } catch (NoSuchMethodException | IllegalAccessException | InvocationTargetException e) {
            throw new IllegalStateException(step.name(), e);
        }
    }
}

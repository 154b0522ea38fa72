import java.io.IOException;
import java.lang.reflect.Method;
import java.nio.file.Files;
import java.nio.file.Path;
import java.util.Arrays;
import java.util.List;
import java.util.regex.Matcher;
import java.util.regex.Pattern;
import java.util.stream.Stream;

/** README.md: each call in it answers what is told behind it, and each test is named. */
public final class ReadmeTest {
    private static final Pattern TEXT = Pattern.compile("String text = \"([^\"]*)\";.*");
    private static final Pattern CALL = Pattern.compile("x\\.(\\w+)\\(([^()]*)\\);\\s*//\\s*(-?\\w+).*");

    public static void main(String[] args) throws Exception {
        String readme = Files.readString(Path.of("README.md"));
        calls(readme);
        tests(readme);
        Check.end();
    }

    private static void calls(String readme) throws ReflectiveOperationException {
        BarkNames x = new BarkNames();
        String text = "";
        boolean code = false;
        for (String line : readme.lines().map(String::trim).toList()) {
            if (line.startsWith("```")) {
                code = line.equals("```java");
                continue;
            }
            Matcher texts = TEXT.matcher(line);
            Matcher call = CALL.matcher(line);
            if (code && texts.matches()) {
                text = texts.group(1);
            } else if (code && line.equals("x.feed(text.charAt(i));")) {
                Check.feed(x, text);
            } else if (code && line.startsWith("x.")) {
                boolean told = call.matches();
                Check.due("an answer is told in the README's " + line, told ? 1 : 0, 1);
                if (told) {
                    Check.due("the README's " + line, answer(x, call.group(1), call.group(2)), number(call.group(3)));
                }
            }
        }
    }

    private static int answer(BarkNames x, String name, String numbers) throws ReflectiveOperationException {
        List<Integer> arguments = Stream.of(numbers.split(", *")).filter(s -> !s.isEmpty()).map(ReadmeTest::number).toList();
        Class<?>[] types = new Class<?>[arguments.size()];
        Arrays.fill(types, int.class);
        Method method = BarkNames.class.getMethod(name, types);
        return (int) method.invoke(x, arguments.toArray());
    }

    private static int number(String word) {
        switch (word) {
            case "NONE": return Check.NONE;
            case "BAD": return Check.BAD;
            case "STATE": return Check.STATE;
            case "FULL": return Check.FULL;
            default: return word.startsWith("'") ? word.charAt(1) : Integer.parseInt(word);
        }
    }

    private static void tests(String readme) throws IOException {
        try (Stream<Path> files = Files.list(Path.of("src/test/java"))) {
            for (Path file : files.toList()) {
                String name = file.getFileName().toString().replace(".java", "");
                if (name.endsWith("Test")) {
                    Check.due("in the README: " + name, readme.contains("`" + name + "`") ? 1 : 0, 1);
                }
            }
        }
    }
}

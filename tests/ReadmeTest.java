import java.io.IOException;
import java.lang.reflect.InvocationTargetException;
import java.lang.reflect.Method;
import java.nio.charset.StandardCharsets;
import java.nio.file.DirectoryStream;
import java.nio.file.Files;
import java.nio.file.Path;
import java.util.regex.Matcher;
import java.util.regex.Pattern;

/** Makes the calls of README.md's examples, and looks whether it names all calls and tests. */
public final class ReadmeTest {
    private static final Path README = Path.of("README.md");
    private static final Pattern CALL = Pattern.compile("x\\.(\\w+)\\(([-0-9, ]*)\\);\\s*// (-?\\d+)\\b.*");
    private static final Pattern TELL = Pattern.compile("tell\\(x, \"([^\"]*)\", (\\d)\\);\\s*// (-?\\d+)\\b.*");
    private static final int LEAST_EXAMPLES = 50;
    private static final WhyChosen x = new WhyChosen();
    private static int examples = 0;
    private static int wrong = 0;

    public static void main(String[] args) throws IOException {
        String text = Files.readString(README, StandardCharsets.UTF_8);
        for (String line : text.split("\n")) {
            run(line);
        }
        if (examples < LEAST_EXAMPLES) {
            say("only " + examples + " examples were understood");
        }
        for (Method method : WhyChosen.class.getDeclaredMethods()) {
            if (java.lang.reflect.Modifier.isPublic(method.getModifiers())) {
                named(text, "`" + method.getName() + "`");
            }
        }
        try (DirectoryStream<Path> tests = Files.newDirectoryStream(Path.of("tests"), "*.java")) {
            for (Path test : tests) {
                named(text, "`tests/" + test.getFileName() + "`");
            }
        }
        System.out.println(wrong == 0 ? examples + " examples answer as README.md says" : wrong + " faults");
        System.exit(wrong == 0 ? 0 : 1);
    }

    private static void say(String what) {
        wrong++;
        System.out.println(what);
    }

    private static void named(String text, String name) {
        if (!text.contains(name)) {
            say("README.md does not name " + name);
        }
    }

    private static void run(String line) {
        Matcher call = CALL.matcher(line);
        Matcher tell = TELL.matcher(line);
        if (call.matches()) {
            due(line, answer(call.group(1), call.group(2).split(", ")), Long.parseLong(call.group(3)));
        } else if (tell.matches()) {
            due(line, tell(tell.group(1), Integer.parseInt(tell.group(2))), Long.parseLong(tell.group(3)));
        } else if (line.startsWith("x.") || line.startsWith("tell(")) {
            say("not understood: " + line);
        }
    }

    private static void due(String line, long got, long want) {
        examples++;
        if (got != want) {
            say(line + " .. answered " + got);
        }
    }

    private static int tell(String text, int kind) {
        for (int i = 0; i < text.length(); i++) {
            x.feed(text.charAt(i), 1);
        }
        return x.model(kind);
    }

    private static long answer(String name, String[] numbers) {
        for (Method method : WhyChosen.class.getMethods()) {
            if (method.getName().equals(name) && method.getParameterCount() == numbers.length) {
                Object[] told = new Object[numbers.length];
                for (int i = 0; i < numbers.length; i++) {
                    if (method.getParameterTypes()[i] == long.class) {
                        told[i] = Long.parseLong(numbers[i]);
                    } else {
                        told[i] = Integer.parseInt(numbers[i]);
                    }
                }
                try {
                    return ((Number) method.invoke(x, told)).longValue();
                } catch (IllegalAccessException | InvocationTargetException e) {
                    throw new IllegalStateException(name, e);
                }
            }
        }
        throw new IllegalStateException("no such call: " + name);
    }
}

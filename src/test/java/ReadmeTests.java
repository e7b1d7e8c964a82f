import java.io.IOException;
import java.lang.reflect.Field;
import java.lang.reflect.Method;
import java.lang.reflect.Modifier;
import java.nio.charset.StandardCharsets;
import java.nio.file.Files;
import java.nio.file.Path;
import java.util.regex.Matcher;
import java.util.regex.Pattern;

/** What README.md (found from the checkout's root) tells of the class is so. */
public final class ReadmeTests {
    private static int wrong = 0;

    public static void main(String[] args) throws IOException {
        String page = new String(Files.readAllBytes(Path.of("README.md")), StandardCharsets.UTF_8);
        everyCallIsThere(page);
        everyConstantIsThere(page);
        theExampleAnswersAsItSays(page);
        if (wrong != 0) {
            System.exit(1);
        }
        Bench.end();
    }

    private static void holdsTrue(boolean right, String what) {
        if (!right) {
            wrong++;
            System.out.println("README.md: not so: " + what);
        }
    }

    /** A row of a table each, with as many arguments as the call takes. */
    private static void everyCallIsThere(String page) {
        for (Method method : LeanedBars.class.getDeclaredMethods()) {
            if (Modifier.isPublic(method.getModifiers())) {
                int n = method.getParameterCount();
                String arguments = n == 0 ? "" : "\\w+" + ", \\w+".repeat(n - 1);
                Matcher row = Pattern.compile("(?m)^\\| `" + method.getName() + "\\(" + arguments + "\\)` \\| .+ \\|.*\\|$")
                    .matcher(page);
                holdsTrue(row.find(), "a row tells of " + method);
            }
        }
    }

    private static void everyConstantIsThere(String page) {
        for (Field field : LeanedBars.class.getFields()) {
            String told = "`" + field.getName() + "` (" + valueOf(field) + ")";
            holdsTrue(page.contains(told), "it tells of " + told);
        }
    }

    private static int valueOf(Field field) {
        try {
            return field.getInt(null);
        } catch (IllegalAccessException e) {
            throw new IllegalStateException(e);
        }
    }

    private static void theExampleAnswersAsItSays(String page) {
        Bench.sentence("README.md, the example");
        int from = page.indexOf("```java\n");
        int to = page.indexOf("```", from + 3);
        holdsTrue(from >= 0 && to > from, "it has an example");
        Matcher text = Pattern.compile("String text = \"([^\"]+)\";").matcher(page.substring(from, to));
        holdsTrue(text.find(), "its text is told");
        Bench x = new Bench().types(text.group(1));
        int calls = 0;
        for (String line : page.substring(from, to).split("\n")) {
            Matcher call = Pattern.compile(" +x\\.(\\w+)\\(([^()]*)\\); *// (-?\\d+)\\b.*").matcher(line);
            if (call.matches()) {
                x.due(row(call.group(1), call.group(2)), Long.parseLong(call.group(3)));
                calls++;
            } else {
                holdsTrue(!line.contains("//"), "an answer that is no number: " + line);
            }
        }
        holdsTrue(calls >= 30, "its calls were found: " + calls);
    }

    private static String row(String name, String arguments) {
        StringBuilder row = new StringBuilder(name);
        for (String argument : arguments.isEmpty() ? new String[0] : arguments.split(", ")) {
            row.append(' ').append(Long.decode(argument.replace("L", "")));
        }
        return row.toString();
    }
}

import java.io.IOException;
import java.lang.reflect.InvocationTargetException;
import java.lang.reflect.Method;
import java.lang.reflect.Modifier;
import java.nio.file.Files;
import java.nio.file.Path;
import java.util.ArrayList;
import java.util.Arrays;
import java.util.List;
import java.util.Set;
import java.util.TreeSet;
import java.util.regex.Matcher;
import java.util.regex.Pattern;

/** What README.md shows as an example answers as it says there, line by line, and it shows every call. */
public final class ReadmeTest extends Checks {
    private static final String MADE = "RingHand x = new RingHand();";
    private static final Pattern ASKED = Pattern.compile("x\\.(\\w+)\\((.*)\\);\\s*// (.*)");
    private static final Pattern TOLD = Pattern.compile("tell\\(x, \"(.*)\"\\);\\s*// (.*)");
    private static final Pattern ANSWER = Pattern.compile("(?:throws )?([\\w-]+): .*");
    private static final Set<String> shown = new TreeSet<>();
    private static RingHand x = null;

    public static void main(String[] args) throws Exception {
        String readme = Files.readString(Path.of("README.md"));
        for (List<String> block : blocks(readme)) {
            if (block.get(0).startsWith("static ")) {
                stands(block);
            } else {
                block.forEach(ReadmeTest::run);
            }
        }
        everyCallIsShown();
        everyTestIsNamed(readme);
        endWithCount();
    }

    /** The lines of each example, without those that are blank. */
    private static List<List<String>> blocks(String readme) {
        List<List<String>> found = new ArrayList<>();
        Matcher m = Pattern.compile("(?s)```java\n(.*?)```").matcher(readme);
        while (m.find()) {
            List<String> lines = new ArrayList<>(Arrays.asList(m.group(1).split("\n")));
            lines.removeIf(String::isBlank);
            found.add(lines);
        }
        due(found.isEmpty() ? "no example" : "examples", "examples");
        return found;
    }

    /** A method of the reader's own is one that the tests use themselves. */
    private static void stands(List<String> block) {
        try {
            String checks = plain(Files.readString(Path.of("src/test/java/Checks.java")));
            due(checks.contains(plain(String.join("\n", block))) ? "as in Checks" : block.get(0), "as in Checks");
        } catch (IOException e) {
            due("Checks.java can't be read", "as in Checks");
        }
    }

    private static String plain(String text) {
        return text.replaceAll("\\s+", " ").strip();
    }

    private static void run(String line) {
        sentence = line;
        Matcher asked = ASKED.matcher(line);
        Matcher told = TOLD.matcher(line);
        if (line.equals(MADE)) {
            x = new RingHand();
        } else if (told.matches() && x != null) {
            compare(Integer.toString(tell(x, told.group(1))), told.group(2));
        } else if (asked.matches() && x != null) {
            compare(asked(asked.group(1), asked.group(2)), asked.group(3));
        } else {
            due("not understood", "an example");
        }
        sentence = "";
    }

    private static void compare(String got, String said) {
        Matcher m = ANSWER.matcher(said);
        due(got, m.matches() ? m.group(1) : said);
    }

    private static String asked(String name, String arguments) {
        shown.add(name);
        for (Method m : RingHand.class.getMethods()) {
            if (m.getName().equals(name)) {
                try {
                    Object answer = m.invoke(x, values(arguments));
                    return m.getReturnType() == void.class ? "nothing" : String.valueOf(answer);
                } catch (InvocationTargetException e) {
                    return e.getCause().getClass().getSimpleName();
                } catch (IllegalAccessException | IllegalArgumentException e) {
                    return "not such a call";
                }
            }
        }
        return "no such call";
    }

    private static Object[] values(String arguments) {
        List<Object> all = new ArrayList<>();
        for (String s : arguments.isBlank() ? new String[0] : arguments.split(",")) {
            all.add(value(s.strip()));
        }
        return all.toArray();
    }

    private static Object value(String told) {
        if (told.equals("true") || told.equals("false")) {
            return told.equals("true");
        }
        if (told.equals("RingHand.NONE")) {
            return RingHand.NONE;
        }
        return told.startsWith("0x") ? Integer.parseUnsignedInt(told.substring(2), 16) : Integer.parseInt(told);
    }

    private static void everyCallIsShown() {
        for (Method m : RingHand.class.getDeclaredMethods()) {
            if (Modifier.isPublic(m.getModifiers())) {
                due(shown.contains(m.getName()) ? "shown" : m.getName() + " isn't shown", "shown");
            }
        }
    }

    private static void everyTestIsNamed(String readme) throws Exception {
        due(readme.contains("`.ci/run`") ? "named" : ".ci/run", "named");
        try (var files = Files.list(Path.of("src/test/java"))) {
            for (Path file : (Iterable<Path>) files::iterator) {
                String name = file.getFileName().toString().replace(".java", "");
                due(readme.contains("`" + name + "`") ? "named" : name, "named");
            }
        }
    }
}

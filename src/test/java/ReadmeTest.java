import java.io.IOException;
import java.lang.reflect.Method;
import java.lang.reflect.Modifier;
import java.nio.file.Files;
import java.nio.file.Path;
import java.util.regex.Matcher;
import java.util.regex.Pattern;

/** The lines of README.md answer as they say there, and it names every call of the face. */
public final class ReadmeTest {
    private static final Pattern FED = Pattern.compile("\"([^\"]*)\"\\.toCharArray\\(\\)\\) s\\.feed\\(c\\);");
    private static final Pattern ASKED = Pattern.compile("s\\.(\\w+)\\(([-0-9, ]*)\\);\\s*// (-?\\d+)(:.*)?");
    private static int wrong = 0;

    public static void main(String[] args) throws IOException, ReflectiveOperationException {
        String readme = Files.readString(Path.of("README.md"));
        everyCallIsNamed(readme);
        int from = readme.indexOf("```java");
        int lines = answersOf(readme.substring(from, readme.indexOf("```", from + 3)));
        System.out.println(wrong == 0 ? lines + " lines of README.md answer so" : wrong + " faults of README.md");
        if (wrong != 0) System.exit(1);
    }

    private static void tell(String fault) {
        wrong++;
        System.out.println(fault);
    }

    private static void everyCallIsNamed(String readme) {
        for (Method method : SamplerLaw.class.getDeclaredMethods()) {
            boolean open = Modifier.isPublic(method.getModifiers());
            if (open && !readme.contains("`" + method.getName() + "`")) tell("README.md does not name " + method.getName());
        }
    }

    private static int answersOf(String block) throws ReflectiveOperationException {
        SamplerLaw s = new SamplerLaw();
        int lines = 0;
        for (String line : block.split("\n")) {
            Matcher fed = FED.matcher(line);
            if (fed.find()) {
                for (char c : fed.group(1).toCharArray()) s.feed(c);
            }
            Matcher asked = ASKED.matcher(line);
            if (asked.matches()) {
                lines++;
                long got = answer(s, asked.group(1), asked.group(2));
                if (got != Long.parseLong(asked.group(3))) tell(line + " (answered " + got + ")");
            } else if (line.startsWith("s.")) {
                tell("this line has no answer: " + line);
            }
        }
        if (lines == 0) tell("README.md has no lines to be tried");
        return lines;
    }

    private static long answer(SamplerLaw s, String name, String listed) throws ReflectiveOperationException {
        String[] parts = listed.isEmpty() ? new String[0] : listed.split(", *");
        Class<?>[] types = new Class<?>[parts.length];
        Object[] numbers = new Object[parts.length];
        for (int i = 0; i < parts.length; i++) {
            types[i] = int.class;
            numbers[i] = Integer.parseInt(parts[i]);
        }
        return ((Number) SamplerLaw.class.getMethod(name, types).invoke(s, numbers)).longValue();
    }
}

import java.io.IOException;
import java.lang.reflect.Constructor;
import java.lang.reflect.Field;
import java.lang.reflect.Method;
import java.lang.reflect.Modifier;
import java.nio.file.Files;
import java.nio.file.Path;
import java.util.LinkedHashSet;
import java.util.List;
import java.util.Set;
import java.util.TreeSet;
import java.util.regex.Matcher;
import java.util.regex.Pattern;

/** The face of the class is the document's, and its source keeps to the words of LANGUAGE.md. */
public final class FormTest {
    private static final String SOURCE = "src/main/java/SamplerLaw.java";
    private static final String[] RULED_OUT = {
        "throw", "throws", "try", "catch", "finally", "synchronized", "assert", "package", "->", "::",
        "Exact\\(", "System\\.(?!arraycopy)", "import (?!java\\.util\\.Arrays;)", "\\bnew Object\\b", "Random", "\\bThread\\b"
    };
    private static int wrong = 0;

    public static void main(String[] args) throws IOException {
        face();
        hiddenMembers();
        sizes();
        source();
        System.out.println(wrong == 0 ? "the form is as due" : wrong + " faults of form");
        if (wrong != 0) System.exit(1);
    }

    private static void tell(String fault) {
        wrong++;
        System.out.println(fault);
    }

    private static void face() throws IOException {
        Set<String> due = new TreeSet<>();
        Matcher m = Pattern.compile("public (int|long) (\\w+)\\(([^)]*)\\);")
                .matcher(Files.readString(Path.of("../shared/DOC.md")));
        while (m.find()) {
            int parameters = m.group(3).isEmpty() ? 0 : m.group(3).split(",").length;
            due.add(m.group(1) + " " + m.group(2) + " " + parameters);
        }
        Set<String> found = new TreeSet<>();
        for (Method method : SamplerLaw.class.getDeclaredMethods()) {
            if (!Modifier.isPrivate(method.getModifiers())) {
                found.add(method.getReturnType() + " " + method.getName() + " " + method.getParameterCount());
            }
        }
        if (due.size() != 42) tell("the document's face has " + due.size() + " methods");
        if (!found.equals(due)) tell("methods " + found + ", due are " + due);
    }

    private static void hiddenMembers() {
        if (!Modifier.isFinal(SamplerLaw.class.getModifiers())) tell("the class is not final");
        Set<String> constants = new TreeSet<>();
        for (Field field : SamplerLaw.class.getDeclaredFields()) {
            if (!Modifier.isPrivate(field.getModifiers())) constants.add(field.getName());
        }
        if (!constants.equals(Set.of("BAD", "STATE", "FULL", "NONE"))) tell("constants " + constants);
        Constructor<?>[] constructors = SamplerLaw.class.getDeclaredConstructors();
        if (constructors.length != 1 || constructors[0].getParameterCount() != 0) tell("constructors");
        Set<String> open = new TreeSet<>();
        for (Method method : SamplerLaw.class.getDeclaredMethods()) {
            if (!Modifier.isPrivate(method.getModifiers())) open.add(method.getName());
        }
        for (Method method : SamplerLaw.class.getDeclaredMethods()) {
            if (Modifier.isPrivate(method.getModifiers()) && open.contains(method.getName())) {
                tell("a private method bears the public name " + method.getName());
            }
        }
        for (Class<?> inside : SamplerLaw.class.getDeclaredClasses()) {
            if (!Modifier.isStatic(inside.getModifiers())) tell(inside + " is not static");
            for (Method method : inside.getDeclaredMethods()) {
                if (open.contains(method.getName())) tell(inside + " has a method " + method.getName());
            }
        }
    }

    private static void sizes() {
        Set<Class<?>> all = new LinkedHashSet<>(List.of(SamplerLaw.class.getDeclaredClasses()));
        if (all.size() > 12) tell(all.size() + " classes inside");
        all.add(SamplerLaw.class);
        for (Class<?> one : all) {
            int fields = 0;
            for (Field field : one.getDeclaredFields()) {
                if (!Modifier.isStatic(field.getModifiers())) {
                    fields++;
                } else if (!Modifier.isFinal(field.getModifiers())) {
                    tell(one + " has static state: " + field.getName());
                }
            }
            if (fields > 20) tell(one + " has " + fields + " fields");
            for (Method method : one.getDeclaredMethods()) {
                if (method.getParameterCount() > 7) tell(one + " has a long list of parameters: " + method.getName());
            }
        }
    }

    private static void source() throws IOException {
        String code = Files.readString(Path.of(SOURCE)).replaceAll("(?s)/\\*.*?\\*/", " ").replaceAll("//[^\n]*", " ");
        for (String word : RULED_OUT) {
            String pattern = word.matches("[a-z]+") ? "\\b" + word + "\\b" : word;
            if (Pattern.compile(pattern).matcher(code).find()) tell("the source has " + word);
        }
    }
}

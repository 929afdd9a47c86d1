import java.io.IOException;
import java.lang.reflect.Method;
import java.nio.file.Files;
import java.nio.file.Path;
import java.util.regex.Matcher;
import java.util.regex.Pattern;

/** What README.md says of the class: each call of its example is made, and answers what stands behind it. */
public final class ReadmeTest {
    private static final Pattern CALL = Pattern.compile("race\\.(\\w+)\\(([^)]*)\\);\\s*(?://\\s*(-?\\w+).*)?");

    public static void main(String[] args) throws IOException, ReflectiveOperationException {
        String readme = Files.readString(Path.of("README.md"));
        example(readme);
        textIsReadable(readme);
        everyCallIsNamed(readme);
        Check.end("ReadmeTest");
    }

    private static void example(String readme) throws ReflectiveOperationException {
        int from = readme.indexOf("```java");
        int till = readme.indexOf("```", from + 3);
        Check.holds("README.md has an example", from >= 0 && till > from);
        SmellRace race = new SmellRace();
        int calls = 0;
        for (String line : readme.substring(from, till).split("\n")) {
            Matcher call = CALL.matcher(line.trim());
            if (call.matches()) {
                Object got = answer(race, call.group(1), call.group(2).split(",\\s*"));
                Check.holds(line + " answered " + got, call.group(3) == null || call.group(3).equals(got.toString()));
                calls++;
            }
        }
        Check.holds("the example has calls", calls > 5);
    }

    /** What stands beside the text is parted from it by three blanks or more. */
    private static void textIsReadable(String readme) {
        StringBuilder text = new StringBuilder();
        int from = readme.indexOf("### A text");
        for (String line : readme.substring(from, readme.indexOf("###", from + 3)).split("\n")) {
            text.append(line.startsWith("    ") ? line.trim().split(" {3,}")[0] : "");
        }
        SmellRace race = Check.race(text.toString());
        Check.same("rows of the text", race.count(1), 3);
        Check.same("boats of the text", race.count(2), 2);
    }

    private static Object answer(SmellRace race, String name, String[] words) throws ReflectiveOperationException {
        for (Method m : SmellRace.class.getMethods()) {
            if (m.getName().equals(name)) {
                Object[] values = new Object[m.getParameterCount()];
                for (int i = 0; i < values.length; i++) {
                    values[i] = m.getParameterTypes()[i] == boolean.class ? (Object) Boolean.valueOf(words[i]) : (Object) Integer.decode(words[i]);
                }
                return m.invoke(race, values);
            }
        }
        throw new NoSuchMethodException(name);
    }

    private static void everyCallIsNamed(String readme) {
        for (Method m : SmellRace.class.getDeclaredMethods()) {
            if (java.lang.reflect.Modifier.isPublic(m.getModifiers())) {
                Check.holds("README.md names " + m.getName(), readme.contains("`" + m.getName() + "("));
            }
        }
    }
}

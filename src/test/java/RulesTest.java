import java.io.IOException;
import java.lang.reflect.Constructor;
import java.lang.reflect.Field;
import java.lang.reflect.InvocationTargetException;
import java.lang.reflect.Member;
import java.lang.reflect.Method;
import java.lang.reflect.Modifier;
import java.nio.file.Files;
import java.nio.file.Path;
import java.util.Arrays;
import java.util.Set;
import java.util.TreeSet;
import java.util.regex.Matcher;
import java.util.regex.Pattern;

/** The face of the class, and what of LANGUAGE.md can be seen from outside. */
public final class RulesTest {
    private static final String[] FACE = {
        "back(int)int", "bare(int)int", "boat(int,int)int", "cell(int,int,int)int", "count(int)int", "cover(int)int",
        "feed(int,int,int,int,int)int", "forget()int", "fried(int)int", "go(int,int)int", "hidden(int)int",
        "hold(int)boolean", "hours(int)int", "inPlace(int,int)int", "laid(int,int,int,boolean)int", "leader(int)int",
        "lost(int)int", "many(int,boolean)int", "met(int,int,int)int", "odds(int,int,int)int", "out(int,int)int",
        "pan(int,boolean)boolean", "place()int", "ranked(int)int", "read()int", "restore(int)boolean",
        "rock(int,int,int)int", "route(int,int)int", "smelt(int,int)int", "soonest(int)int", "steers(int)int",
        "sure(int,int)int", "tell(int,int)int", "then(int,int,int)int", "undo()boolean", "wind(int)int"};

    private static final int[] EXTREMES = {Integer.MIN_VALUE, -32, -2, -1, 0, 1, 4, 5, 6, 8, 24, 32, 63, 100, 101, 1000, Integer.MAX_VALUE};
    private static final String[] TEXTS = {"", "row o;", "row oorm; row oooo; boat a 0 0 9 9; boat b 1 1 2 3; lies = 9; cold 40; wind = hour;",
        "row om; boat a 1 0 0 0; steers = 9999 * 9999 / (hour - 3);"};

    public static void main(String[] args) throws IOException, IllegalAccessException {
        face();
        noCallThrows();
        source(Files.readString(Path.of("src/main/java/SmellRace.java")));
        Check.end("RulesTest");
    }

    private static void face() {
        Check.holds("public final", Modifier.isPublic(SmellRace.class.getModifiers()) && Modifier.isFinal(SmellRace.class.getModifiers()));
        Set<String> got = new TreeSet<>();
        Set<String> names = new TreeSet<>();
        for (Method m : SmellRace.class.getDeclaredMethods()) {
            if (Modifier.isPublic(m.getModifiers())) {
                StringBuilder types = new StringBuilder();
                for (Class<?> type : m.getParameterTypes()) {
                    types.append(types.length() == 0 ? "" : ",").append(type);
                }
                got.add(m.getName() + "(" + types + ")" + m.getReturnType());
                names.add(m.getName());
                Check.fails(m + " is not static", Modifier.isStatic(m.getModifiers()));
            } else {
                Check.holds(m + " is private", isPrivate(m));
            }
        }
        Check.holds("the methods " + got, got.equals(new TreeSet<>(Set.of(FACE))));
        for (Field f : SmellRace.class.getDeclaredFields()) {
            Check.holds(f + " is private", isPrivate(f) || f.getName().equals("NONE"));
        }
        Constructor<?>[] made = SmellRace.class.getDeclaredConstructors();
        Check.holds("one constructor", made.length == 1 && made[0].getParameterCount() == 0 && Modifier.isPublic(made[0].getModifiers()));
        Check.holds("some twelve classes", SmellRace.class.getDeclaredClasses().length < 12);
        for (Class<?> inside : SmellRace.class.getDeclaredClasses()) {
            Check.holds(inside + " is static", Modifier.isStatic(inside.getModifiers()) && !Modifier.isPublic(inside.getModifiers()));
            for (Method m : inside.getDeclaredMethods()) {
                Check.fails(m + " bears a public one's name", names.contains(m.getName()));
                Check.holds(m + " has seven parameters at most", m.getParameterCount() <= 7);
            }
            int fields = 0;
            for (Field f : inside.getDeclaredFields()) {
                fields += Modifier.isStatic(f.getModifiers()) ? 0 : 1;
                Check.holds(f + " if static is final", !Modifier.isStatic(f.getModifiers()) || Modifier.isFinal(f.getModifiers()));
            }
            Check.holds("fields of " + inside, fields <= 20);
        }
    }

    /** Each call with each extreme of each argument, in several states; what each call leaves is gone on from. */
    private static void noCallThrows() throws IllegalAccessException {
        for (String text : TEXTS) {
            for (Method m : SmellRace.class.getDeclaredMethods()) {
                if (Modifier.isPublic(m.getModifiers()) && m.getParameterCount() < 5) {
                    callWithExtremes(m, Check.race(text));
                }
            }
        }
    }

    private static void callWithExtremes(Method m, SmellRace race) throws IllegalAccessException {
        int arguments = m.getParameterCount();
        int all = (int) Math.pow(EXTREMES.length, arguments);
        for (int number = 0; number < all; number++) {
            Object[] values = new Object[arguments];
            int rest = number;
            for (int i = 0; i < arguments; i++) {
                int extreme = EXTREMES[rest % EXTREMES.length];
                values[i] = m.getParameterTypes()[i] == boolean.class ? (Object) (extreme > 0) : (Object) extreme;
                rest /= EXTREMES.length;
            }
            try {
                m.invoke(race, values);
            } catch (InvocationTargetException thrown) {
                Check.holds(m + Arrays.toString(values) + " threw " + thrown.getCause(), false);
            }
        }
        Check.holds(m + " was called", all > 0);
    }

    private static boolean isPrivate(Member member) {
        return Modifier.isPrivate(member.getModifiers());
    }

    private static void source(String source) {
        String code = source.replaceAll("(?s)/\\*.*?\\*/", "").replaceAll("//[^\n]*", "").replaceAll("\"[^\"\n]*\"", "\"\"");
        Matcher banned = Pattern.compile("\\b(throw|throws|try|catch|finally|synchronized|assert|package|double|float|var|hashCode|\\w+Exact)\\b|->|::")
            .matcher(code);
        while (banned.find()) {
            Check.fails("the word " + banned.group(), true);
        }
        Matcher imports = Pattern.compile("import ([^;]*);").matcher(code);
        while (imports.find()) {
            Check.holds("import " + imports.group(1), Set.of("java.util.Arrays", "java.util.ArrayList", "java.util.List").contains(imports.group(1)));
        }
        Check.holds("signs 1 to 127 alone", source.chars().allMatch(c -> c < 128));
        methodsAreShort(source);
    }

    private static void methodsAreShort(String source) {
        String[] lines = source.split("\n");
        for (int i = 0; i < lines.length; i++) {
            Matcher head = Pattern.compile("^( {4}| {8})(?!\\s)(?!.*\\bclass\\b).*\\) \\{$").matcher(lines[i]);
            if (head.matches()) {
                int end = i;
                while (end < lines.length - 1 && !lines[end].equals(head.group(1) + "}")) {
                    end++;
                }
                Check.holds("line " + (i + 1) + " begins a method of " + (end - i) + " lines", end - i < 60);
            }
        }
    }
}

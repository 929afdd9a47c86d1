import java.lang.reflect.InvocationTargetException;
import java.lang.reflect.Method;
import java.util.Arrays;
import java.util.Comparator;
import java.util.Set;
import java.util.function.IntSupplier;

/** What the cases at the edges share: each case is a method of its own, named by its promise's number. */
final class Edge {
    private static int passed = 0;
    private static int failed = 0;

    private Edge() {
    }

    /** Runs each method pNN.. of a class; the promises that have one are added to a set. */
    static void runAll(Class<?> cases, Set<Integer> promises) throws ReflectiveOperationException {
        Method[] methods = cases.getDeclaredMethods();
        Arrays.sort(methods, Comparator.comparing(Method::getName));
        for (Method m : methods) {
            if (m.getName().matches("p[0-9][0-9][A-Z].*")) {
                promises.add(Integer.parseInt(m.getName().substring(1, 3)));
                runOne(m);
            }
        }
    }

    private static void runOne(Method m) throws ReflectiveOperationException {
        int before = Check.wrongAnswers();
        m.setAccessible(true);
        try {
            m.invoke(null);
        } catch (InvocationTargetException thrown) {
            Check.holds(m.getName() + " threw " + thrown.getCause(), false);
        }
        if (Check.wrongAnswers() == before) {
            passed++;
        } else {
            failed++;
            System.out.println("FAILED: " + m.getDeclaringClass().getName() + "." + m.getName());
        }
    }

    static void end(String test) {
        System.out.println(test + ": " + passed + " passed, " + failed + " failed");
        if (Check.wrongAnswers() != 0) {
            System.exit(1);
        }
    }

    /** What is just outside a range, and far outside it. */
    static int[] outside(int least, int most) {
        return new int[] {least - 1, most + 1, Integer.MIN_VALUE, Integer.MAX_VALUE};
    }

    /** A call that is refused: its answer is the due one, and nothing happens. */
    static void refused(String call, SmellRace race, int due, IntSupplier answer) {
        String before = all(race);
        Check.same(call, answer.getAsInt(), due);
        String behind = all(race);
        Check.holds(call + ": nothing happens\n  " + before + "\n  " + behind, before.equals(behind));
    }

    static int bit(boolean answer) {
        return answer ? 1 : 0;
    }

    /** All that can be seen of an object without a change. */
    static String all(SmellRace race) {
        StringBuilder all = new StringBuilder();
        for (int what = 0; what < 14; what++) {
            all.append(race.count(what)).append(' ');
        }
        all.append(race.place()).append('|');
        for (int k = 0; k < race.count(2); k++) {
            for (int what = 0; what < 8; what++) {
                all.append(race.boat(k, what)).append(' ');
            }
            all.append(race.steers(k)).append('|');
        }
        for (int y = 0; y < race.count(1); y++) {
            for (int x = 0; x < race.count(0); x++) {
                all.append(race.cell(x, y, 0)).append(race.cell(x, y, 1)).append(race.cell(x, y, 2));
                for (int k = 0; k < race.count(2); k++) {
                    all.append(race.laid(x, y, k, false)).append(race.laid(x, y, k, true)).append(' ');
                }
            }
        }
        for (int k = 0; k <= race.count(10); k++) {
            all.append(race.fried(k)).append(' ');
        }
        return all.toString();
    }

    /** Reads a text on a new object: the fault and its place that are due. */
    static void fault(String text, int number, int place) {
        SmellRace race = new SmellRace();
        Check.feed(race, text);
        Check.same("bytes of " + text, race.count(8), text.length());
        Check.same("read of " + text, race.read(), number);
        Check.same("place in " + text, race.place(), place);
    }

    static void good(String text) {
        fault(text, 0, SmellRace.NONE);
    }
}

import java.lang.reflect.InvocationTargetException;
import java.lang.reflect.Method;
import java.lang.reflect.Modifier;
import java.util.ArrayList;
import java.util.Arrays;
import java.util.Comparator;
import java.util.List;
import java.util.Random;

/**
 * All promises: runs of calls by seeds, each answer held against the model's. Every other run is a lively one: its
 * texts are of boats that sail long and smell one another, most of its arguments are such that there is an answer,
 * and its faulty texts have the faults that SYNTAX and ROOM go ahead of.
 */
public final class ModelTest {
    private static final String[] VARS = {"hour", "east", "south", "blows", "smells", "near", "which", "strong", "placed"};
    private static final String[] LIVELY_STEERS = {
        "1 + (hour + which) / 3 * 2 - near", "if smells < 1 then hour / 2 + which else near + hour",
        "if near < 0 then 1 + which else if east < 5 then 1 else 2 + smells", "if hour < which then 0 else east + south + smells",
        "if placed < 1 then blows else 1 + hour", "blows + smells", "hour * strong + 1 - smells", "if blows < 2 then 1 else 2 * near + hour"};
    private static final String[] LIVELY_WINDS = {"hour", "hour / 3", "hour * hour + 1", "7 - hour", "if hour < 4 then 1 else hour / 2"};
    private static final String[] LIVELY_LIES = {"strong - east", "hour - which", "9 - south", "4", "which + 2", "if east < 3 then 0 else 6"};

    private final Random random;
    private final boolean lively;
    private final SmellRace race = new SmellRace();
    private final Model model = new Model();
    private final StringBuilder story = new StringBuilder();
    private static int reads = 0;
    private static int goodReads = 0;
    private static int answers = 0;

    private ModelTest(long seed) {
        random = new Random(seed);
        lively = seed % 2 == 1;
    }

    public static void main(String[] args) throws ReflectiveOperationException {
        int runs = args.length > 0 ? Integer.parseInt(args[0]) : 150;
        int from = args.length > 1 ? Integer.parseInt(args[1]) : 0;
        List<Method> methods = new ArrayList<>();
        for (Method m : SmellRace.class.getDeclaredMethods()) {
            if (Modifier.isPublic(m.getModifiers())) {
                methods.add(m);
            }
        }
        methods.sort(Comparator.comparing(Method::getName));
        for (int run = from; run < from + runs; run++) {
            new ModelTest(run).run(methods, run);
        }
        System.out.println(goodReads + " of " + reads + " texts without a fault");
        System.out.println("ModelTest: " + answers + " passed, 0 failed");
    }

    private void run(List<Method> methods, int run) throws ReflectiveOperationException {
        for (int calls = 0; calls < 400; ) {
            if (calls == 0 || random.nextInt(lively ? 60 : 90) == 0) {
                calls += readText(run);
            }
            Method m = methods.get(random.nextInt(methods.size()));
            if (m.getName().equals("read") || m.getName().equals("feed") && random.nextInt(4) > 0) {
                continue;
            }
            if (lively && (m.getName().equals("forget") || m.getName().equals("hours")) && random.nextInt(3) > 0) {
                continue;
            }
            int[] bounds = lively && random.nextInt(10) > 0 ? bounds(m.getName()) : null;
            Object[] args = new Object[m.getParameterCount()];
            for (int i = 0; i < args.length; i++) {
                int number = bounds == null ? number() : random.nextInt(Math.max(1, bounds[i]));
                args[i] = m.getParameterTypes()[i] == boolean.class ? (Object) random.nextBoolean() : (Object) number;
            }
            askForNumbers(m.getName(), args);
            tellWhatMayBe(m.getName(), args);
            compare(m, args, run);
            calls++;
        }
    }

    /** Of each argument the first number above those for which there is an answer; null where all are alike. */
    private int[] bounds(String call) {
        int boats = race.count(2);
        int width = race.count(0);
        int height = race.count(1);
        int told = race.count(10) + 1;
        return switch (call) {
            case "boat" -> new int[] {boats, 8};
            case "cell" -> new int[] {width, height, 3};
            case "laid" -> new int[] {width, height, boats, 2};
            case "wind" -> new int[] {1000};
            case "steers", "soonest", "hidden", "ranked" -> new int[] {boats};
            case "hours" -> new int[] {5};
            case "go", "inPlace" -> new int[] {boats, 7};
            case "pan", "smelt", "tell" -> new int[] {boats, boats};
            case "then" -> new int[] {boats, 30, 3};
            case "many", "bare", "leader" -> new int[] {101, 2};
            case "route" -> new int[] {boats, 6};
            case "met" -> new int[] {boats, boats, 101};
            case "cover", "hold", "restore" -> new int[] {3};
            case "out" -> new int[] {25, 12};
            case "odds" -> new int[] {boats, 101, 21};
            case "lost" -> new int[] {2};
            case "fried" -> new int[] {told};
            case "sure" -> new int[] {told, boats};
            case "rock" -> new int[] {61, random.nextBoolean() ? 4 : 1 << boats, 6};
            case "count" -> new int[] {14};
            default -> null;
        };
    }

    /** RESTS and ROCKS are asked for their number as often as for one of them. */
    private void askForNumbers(String call, Object[] args) {
        if (lively && (call.equals("out") || call.equals("rock")) && random.nextBoolean()) {
            args[args.length - 1] = -1;
        }
    }

    private int number() {
        switch (random.nextInt(40)) {
            case 0:
                return random.nextInt();
            case 1:
                return random.nextInt(130) - 10;
            case 2:
                return new int[] {999, 1000, 100, 101, 24, 25, 60, 61, 40, 20, 21, Integer.MIN_VALUE, Integer.MAX_VALUE}[random.nextInt(13)];
            case 3, 4, 5, 6:
                return random.nextInt(20) - 2;
            case 7, 8, 9:
                return -1;
            default:
                return random.nextInt(7);
        }
    }

    /** Most that is told may be so all at once, or no way would be left soon: pans are of the boats, the last one's first. */
    private void tellWhatMayBe(String call, Object[] args) {
        if (lively && call.equals("tell") && random.nextInt(8) > 0) {
            int boats = race.count(2);
            for (int k = 0; k < boats; k++) {
                int dish = Integer.numberOfTrailingZeros(race.boat(k, 5) & -1 << random.nextInt(boats));
                if (dish < boats) {
                    args[0] = k;
                    args[1] = boats - 1 - dish;
                }
            }
        }
    }

    private void compare(Method m, Object[] args, int run) throws ReflectiveOperationException {
        story.append(m.getName()).append(Arrays.toString(args));
        Object got = answer(m, race, args);
        Object due = answer(Model.class.getMethod(m.getName(), m.getParameterTypes()), model, args);
        story.append(" = ").append(due).append('\n');
        answers++;
        if (!got.equals(due)) {
            System.out.println("run " + run + ":\n" + story + "answered " + got + ", due is " + due);
            System.exit(1);
        }
    }

    private static Object answer(Method m, Object on, Object[] args) throws ReflectiveOperationException {
        try {
            m.setAccessible(true);
            return m.invoke(on, args);
        } catch (InvocationTargetException thrown) {
            throw new IllegalStateException(m + Arrays.toString(args), thrown.getCause());
        }
    }

    private int readText(int run) throws ReflectiveOperationException {
        compare(SmellRace.class.getMethod("back", int.class), new Object[] {race.count(8)}, run);
        String text = text();
        story.append("text ").append(text).append('\n');
        int calls = 0;
        for (int from = 0; from < text.length(); from += 20, calls++) {
            Object[] five = new Object[5];
            for (int i = 0; i < 5; i++) {
                int word = 0;
                for (int j = 0; j < 4; j++) {
                    int p = from + 4 * i + j;
                    word = word << 8 | (p < text.length() ? text.charAt(p) & 255 : 32);
                }
                five[i] = word;
            }
            compare(SmellRace.class.getMethod("feed", int.class, int.class, int.class, int.class, int.class), five, run);
        }
        if (text.length() % 20 != 0) {
            compare(SmellRace.class.getMethod("back", int.class), new Object[] {20 - text.length() % 20}, run);
        }
        compare(SmellRace.class.getMethod("read"), new Object[0], run);
        compare(SmellRace.class.getMethod("place"), new Object[0], run);
        reads++;
        goodReads += race.place() == -1 ? 1 : 0;
        return calls + 4;
    }

    // ---- texts ----

    private String livelyText() {
        List<String> tells = new ArrayList<>();
        int width = 4 + random.nextInt(5);
        int height = 2 + random.nextInt(4);
        char[][] bay = new char[height][width];
        for (char[] row : bay) {
            for (int x = 0; x < width; x++) {
                row[x] = "oooooooooooooooooorrmm".charAt(random.nextInt(22));
            }
        }
        int boats = 2 + random.nextInt(5);
        for (int k = 0; k < boats; k++) {
            int x = random.nextInt(width);
            int y = random.nextInt(height);
            bay[y][x] = 'o';
            tells.add("boat b" + (char) ('a' + k) + " " + x + " " + y + " " + random.nextInt(10) + " " + random.nextInt(10));
        }
        for (char[] row : bay) {
            tells.add("row " + new String(row));
        }
        tells.add("steers = " + oneOf(LIVELY_STEERS));
        tells.add("wind = " + oneOf(LIVELY_WINDS));
        tells.add("lies = " + oneOf(LIVELY_LIES));
        tells.add("cold " + (random.nextBoolean() ? 0 : random.nextInt(70)));
        tells.add("seed " + random.nextInt(10000));
        for (int i = random.nextInt(3) == 0 ? 1 + random.nextInt(3) : 0; i > 0; i--) {
            flaw(tells, random.nextInt(tells.size()));
        }
        return String.join(random.nextBoolean() ? ";" : " ;\n", tells) + ";";
    }

    private String oneOf(String[] laws) {
        return random.nextInt(4) == 0 ? law() : laws[random.nextInt(laws.length)];
    }

    /** A fault of the sorts TWICE, WRONG, BAY, or none, put into one of what is told. */
    private void flaw(List<String> tells, int which) {
        String tell = tells.get(which);
        String[] words = tell.split(" ");
        if (words[0].equals("boat") && random.nextInt(3) == 0) {
            words[1] = "b" + (char) ('a' + random.nextInt(6));
        } else if (words[0].equals("boat")) {
            words[2 + random.nextInt(4)] = "" + (8 + random.nextInt(4));
        } else if (words[0].equals("row")) {
            int p = random.nextInt(words[1].length());
            String letter = "orrmxz".substring(random.nextInt(6)).substring(0, 1);
            words[1] = words[1].substring(0, p) + (random.nextInt(3) == 0 ? "" : letter) + words[1].substring(p + 1);
        } else if (words[0].equals("cold")) {
            words[1] = "" + (99 + random.nextInt(4));
        } else if (words[0].equals("seed")) {
            words[1] = "" + (9998 + random.nextInt(3));
        }
        tells.set(which, String.join(" ", words));
    }

    private String text() {
        if (lively) {
            return livelyText();
        }
        List<String> tells = new ArrayList<>();
        int width = 1 + random.nextInt(8);
        int height = 1 + random.nextInt(5);
        char[][] bay = new char[height][width];
        String letters = random.nextBoolean() ? "ooooooooorm" : "oooooooooooooooorm";
        for (char[] row : bay) {
            for (int x = 0; x < width; x++) {
                row[x] = letters.charAt(random.nextInt(letters.length()));
            }
        }
        int boats = random.nextInt(7);
        for (int k = 0; k < boats; k++) {
            int x = random.nextInt(width);
            int y = random.nextInt(height);
            if (bay[y][x] == 'r') {
                bay[y][x] = 'o';
            }
            tells.add("boat " + (char) ('a' + k) + "x " + x + " " + y + " " + random.nextInt(5) + " " + random.nextInt(6));
        }
        for (char[] row : bay) {
            tells.add("row " + new String(row));
        }
        for (String name : new String[] {"wind", "steers", "lies"}) {
            if (random.nextInt(6) > 0) {
                tells.add(name + " = " + law());
            }
        }
        if (random.nextBoolean()) {
            tells.add("cold " + random.nextInt(101));
            tells.add("seed " + random.nextInt(10000));
        }
        StringBuilder all = new StringBuilder();
        for (String tell : tells) {
            all.append(tell).append(random.nextInt(3) == 0 ? " ;\n" : ";");
        }
        return random.nextInt(3) == 0 ? spoilt(all) : all.toString();
    }

    private String spoilt(StringBuilder text) {
        for (int i = random.nextInt(2); i >= 0 && text.length() > 0; i--) {
            int p = random.nextInt(text.length());
            switch (random.nextInt(5)) {
                case 0:
                    text.deleteCharAt(p);
                    break;
                case 1:
                    text.setCharAt(p, (char) random.nextInt(256));
                    break;
                case 2:
                    text.insert(p, "0123456789abz;=+-*/<() .,\t\rA".charAt(random.nextInt(28)));
                    break;
                case 3:
                    text.insert(p, new String[] {" row ooo;", " boat ax 0 0 0 0;", "(((((((", "if ", "cold 101;", "seed 10000;",
                        " wind = ;", "+1", " hour ", "123456789", "abcdefghi", "\u00e9"}[random.nextInt(12)]);
                    break;
                default:
                    text.setLength(p);
                    break;
            }
        }
        return text.length() > 2000 ? text.substring(0, 2000) : text.toString();
    }

    private String law() {
        StringBuilder law = new StringBuilder();
        int ifs = random.nextInt(20) == 0 ? 5 : Math.max(0, random.nextInt(7) - 2);
        for (int i = 0; i < ifs; i++) {
            law.append("if ").append(sum(0)).append(" < ").append(sum(0)).append(" then ").append(sum(0)).append(" else ");
        }
        return law.append(sum(0)).toString();
    }

    private String sum(int depth) {
        StringBuilder sum = new StringBuilder(unit(depth));
        for (int i = random.nextInt(3); i > 0; i--) {
            sum.append(" +-*/+-".charAt(1 + random.nextInt(6))).append(random.nextBoolean() ? " " : "").append(unit(depth));
        }
        return sum.toString();
    }

    private String unit(int depth) {
        int sort = random.nextInt(10);
        if (sort < 2 && depth < 4 || sort == 2 && depth > 0 && depth < 8) {
            return "(" + sum(depth + 1) + ")";
        }
        return sort < 6 ? " " + VARS[random.nextInt(9)] + " " : "" + random.nextInt(random.nextInt(8) == 0 ? 10000 : 7);
    }
}

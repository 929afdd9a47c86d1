/** What the tests share: texts put on the tape, answers held against what is due. */
final class Check {
    private static int wrong = 0;
    private static int looked = 0;

    private Check() {
    }

    static void same(String call, long got, long due) {
        looked++;
        if (got != due) {
            wrong++;
            System.out.println(call + " answered " + got + ", due is " + due);
        }
    }

    static void holds(String call, boolean got) {
        same(call, got ? 1 : 0, 1);
    }

    static void fails(String call, boolean got) {
        same(call, got ? 1 : 0, 0);
    }

    /** Puts a text on the tape, whose signs are bytes. */
    static void feed(SmellRace race, String text) {
        int[] five = new int[5];
        for (int from = 0; from < text.length(); from += 20) {
            for (int i = 0; i < 20; i++) {
                int sign = from + i < text.length() ? text.charAt(from + i) & 255 : ' ';
                five[i / 4] = five[i / 4] << 8 | sign;
            }
            race.feed(five[0], five[1], five[2], five[3], five[4]);
        }
        race.back((20 - text.length() % 20) % 20);
    }

    static SmellRace race(String text) {
        SmellRace race = new SmellRace();
        feed(race, text);
        same("read of " + text, race.read(), 0);
        return race;
    }

    static int wrongAnswers() {
        return wrong;
    }

    static void end(String test) {
        System.out.println(test + ": " + (looked - wrong) + " passed, " + wrong + " failed");
        if (wrong != 0) {
            System.exit(1);
        }
    }
}

/** Promises 6 to 14: boat, cell, laid, wind, steers, hours, go, pan, undo; and the laws that they go by. */
public final class HourTest {
    public static void main(String[] args) {
        laws();
        winds();
        varsOfLaws();
        laying();
        noses();
        colds();
        steering();
        hoursGoBy();
        byHand();
        pans();
        undoing();
        ranks();
        noSuchOnes();
        Check.end("HourTest");
    }

    /** What a law tells, seen by a wind of it (its rest by 4 and 1 more). */
    private static void law(String law, int due) {
        Check.same("wind = " + law, Check.race("wind = " + law + ";").wind(7), due % 4 + 1);
    }

    private static void laws() {
        law("2 + 3 * 4", 14);
        law("(2 + 3) * 4 + 1", 21);
        law("10 - 4 - 3", 3);
        law("20 / 3 / 2", 3);
        law("9 / 2 * 2 + 1", 9);
        law("7 - 6 / 4 * 2", 5);
        law("(0 - 7) / 2 + 5", 2);
        law("hour", 7);
        law("if hour < 7 then 1 else 2", 2);
        law("if hour < 8 then 1 else 2", 1);
        law("if 1 < 0 then 0 else if 0 < 1 then 3 else 2", 3);
        law("if 0 < 1 then 3 else if 0 < 1 then 1 else 2", 3);
        law("if 1 < 1 then 1 else if 2 < 2 then 2 else if 3 < 3 then 3 else if 0 < 4 then 6 else 1", 6);
        // a division by 0 makes a law 0 just if it is looked at
        law("3 + 1 / 0", 0);
        law("if 0 < 1 then 3 else 1 / 0", 3);
        law("if 1 < 0 then 1 / 0 else 3", 3);
        law("if 0 < 1 then 2 else if 1 / 0 < 1 then 1 else 1", 2);
        law("if 1 / (hour - 7) < 1 then 1 else 2", 0);
        law("if 0 < 0 / 0 then 1 else 2", 0);
        law("3 + 0 * (1 / (7 - hour))", 0);
        // ints of 32 bits that wrap
        law("9999 * 9999 * 9999 - 9999 * 9999 * 9999 + 3", 3);
        law("(8192 * 8192 * 32 - 1) / 4096 / 4096 / 64", 1);
        law("(8192 * 8192 * 32) / 4096 / 4096 / 64 + 5", 3);
        law("(8192 * 8192 * 32) / (0 - 1) / 4096 / 4096 / 64 + 5", 3);
    }

    private static void winds() {
        SmellRace race = Check.race("wind = hour - 2;");
        int[] due = {1, 1, 1, 2, 3, 4, 1, 2};
        for (int hour = 0; hour < due.length; hour++) {
            Check.same("wind(" + hour + ")", race.wind(hour), due[hour]);
        }
        Check.same("wind(999)", race.wind(999), 997 % 4 + 1);
        Check.same("wind(1000)", race.wind(1000), -1);
        Check.same("wind(-1)", race.wind(-1), -1);
        Check.same("wind if not told", new SmellRace().wind(3), 1);
        race.hours(5);
        Check.same("the wind now", race.count(7), 4);
    }

    private static void varsOfLaws() {
        String bay = "row oooo; row oooo; row oooo; boat a 0 0 2 3; boat b 2 1 3 4; ";
        String[] vars = {"hour", "east", "south", "blows", "smells", "near", "which", "strong", "placed"};
        int[] steersDue = {0, 2, 1, 1, 0, -1, 1, 3, 0};
        int[] liesDue = {0, 3, 1, 0, 0, 0, 1, 3, 0};
        for (int i = 0; i < vars.length; i++) {
            Check.same("wind tells " + vars[i], Check.race(bay + "wind = " + vars[i] + ";").wind(2), i == 0 ? 3 : 1);
            Check.same("steers tells " + vars[i], Check.race(bay + "steers = " + vars[i] + " + 1;").steers(1), steersDue[i] + 1);
            SmellRace race = Check.race(bay + "lies = " + vars[i] + " + 1;");
            Check.same("lies tells " + vars[i], race.laid(3, 1, 1, true), liesDue[i] + 1);
        }
        SmellRace race = Check.race("row mooo; boat a 0 0 0 0; boat b 3 0 0 0; boat c 2 0 1 0; wind = 2; steers = placed + 1;");
        Check.same("one is placed", race.steers(1), 2);
        race = Check.race("row oooo; boat a 1 0 1 0; boat b 1 0 1 0; boat c 2 0 1 0; steers = smells * 10 + near;");
        Check.same("c smells two, the least is a", race.steers(2), 20 % 5);
        race = Check.race("row oooo; boat a 1 0 1 0; boat b 1 0 1 0; boat c 2 0 1 0; steers = smells + near * 3;");
        Check.same("a smells b alone", race.steers(0), 4);
        Check.same("b smells a alone", race.steers(1), 1);
    }

    private static void laying() {
        SmellRace race = Check.race("row ooorooo; row ooooomo; boat a 0 0 9 0; boat b 2 1 9 0; boat c 6 0 2 0;"
            + "lies = east * 2 - 1; steers = 0;");
        int[] above = {1, 1, 1, 0, 0, 0, 4};
        int[] below = {0, 0, 2, 2, 2, 2, 2};
        for (int x = 0; x < 7; x++) {
            Check.same("smelt at " + x + ", 0", race.cell(x, 0, 1), above[x]);
            Check.same("smelt at " + x + ", 1", race.cell(x, 1, 1), below[x]);
        }
        Check.same("held to 0", race.laid(0, 0, 0, true), 0);
        Check.same("1 hour", race.laid(1, 0, 0, true), 1);
        Check.same("7 hours", race.laid(4, 1, 1, true), 7);
        Check.same("9 hours", race.laid(5, 1, 1, true), 9);
        Check.same("held to 9", race.laid(6, 1, 1, true), 9);
        Check.same("never", race.laid(3, 0, 0, false), -2);
        Check.same("never, till", race.laid(3, 0, 0, true), -2);
        // by the wind: south, west, north
        race = Check.race("row ooo; row ooo; row ooo; boat a 1 1 1 0; wind = hour; lies = 0; steers = 0;");
        int[][] next = {{2, 1}, {1, 2}, {0, 1}, {1, 0}};
        for (int hour = 0; hour < 8; hour++) {
            for (int way = 0; way < 4; way++) {
                Check.same("hour " + hour + " way " + way, race.cell(next[way][0], next[way][1], 1), way == hour % 4 ? 1 : 0);
            }
            Check.same("own cell", race.laid(1, 1, 0, false), hour);
            race.hours(1);
        }
        // the latest laying counts, though the one ahead of it would lie longer
        race = Check.race("row oo; boat a 0 0 1 0; lies = if hour < 1 then 9 else 1; steers = 0;");
        Check.same("till 9", race.laid(1, 0, 0, true), 9);
        race.hours(1);
        Check.same("laid in hour 1", race.laid(1, 0, 0, false), 1);
        Check.same("till 2", race.laid(1, 0, 0, true), 2);
        race.pan(0, false);
        race.hours(1);
        Check.same("smelt till then", race.cell(1, 0, 1), 1);
        race.hours(1);
        Check.same("not behind it", race.cell(1, 0, 1), 0);
        Check.same("though it was laid", race.laid(1, 0, 0, false), 1);
    }

    private static void noses() {
        SmellRace race = Check.race("row ooo; boat a 0 0 2 9; boat b 1 0 0 1; boat c 2 0 0 3; lies = 9; steers = 0;");
        Check.same("a smells none", race.boat(0, 5), 0);
        Check.same("b smells a", race.boat(1, 5), 1);
        Check.same("c smells a", race.boat(2, 5), 1);
        race.pan(0, false);
        int[] b = {1, 1, 0, 0, 0};
        int[] c = {1, 1, 1, 1, 0};
        for (int hour = 0; hour < 5; hour++) {
            Check.same("b in hour " + hour, race.boat(1, 5), b[hour]);
            Check.same("c in hour " + hour, race.boat(2, 5), c[hour]);
            Check.same("it lies", race.cell(2, 0, 1) & 1, 1);
            race.hours(1);
        }
        race = Check.race("row oom; boat a 0 0 2 9; boat b 1 0 0 9; boat c 2 0 0 9; steers = 0;");
        Check.same("who is home smells none", race.boat(2, 5), 0);
        Check.same("a dish is smelt on a mark", race.cell(2, 0, 1), 1);
    }

    private static int lot(int seed, int which) {
        int h = (seed ^ 69) * 1103515245 + 12345;
        h = h ^ h >>> 15;
        h = (h ^ which) * 1103515245 + 12345;
        h = h ^ h >>> 15;
        return (h >>> 1) % 100;
    }

    private static void colds() {
        int had = 0;
        for (int seed : new int[] {0, 1, 77, 9999}) {
            SmellRace race = Check.race("row oo; boat a 0 0 1 9; boat b 1 0 1 9; steers = 0; cold 40; seed " + seed + ";");
            for (int hour = 0; hour < 20; hour++) {
                for (int k = 0; k < 2; k++) {
                    boolean due = lot(seed, 16 * hour + k) < 40;
                    had += due ? 1 : 0;
                    Check.same("seed " + seed + " hour " + hour + " cold of " + k, race.boat(k, 6), due ? 1 : 0);
                }
                Check.same("b smells a", race.boat(1, 5), lot(seed, 16 * hour + 1) < 40 ? 0 : 1);
                race.hours(1);
            }
        }
        Check.holds("some had colds, some none", had > 20 && had < 140);
        int least = lot(77, 1);
        String bay = "row o; boat a 0 0 0 0; boat b 0 0 0 0; seed 77; cold ";
        Check.same("as many as the lot: none", Check.race(bay + least + ";").boat(1, 6), 0);
        Check.same("one more than the lot", Check.race(bay + (least + 1) + ";").boat(1, 6), 1);
        Check.same("cold 0", Check.race("row o; boat a 0 0 0 0;").boat(0, 6), 0);
        Check.same("cold 100", Check.race("row o; boat a 0 0 0 0; cold 100;").boat(0, 6), 1);
    }

    private static void steering() {
        String bay = "row ooo; row ooo; row ooo; boat a 1 1 0 0; steers = ";
        int[] due = {0, 1, 2, 3, 4, 0, 1};
        for (int tells = 0; tells < due.length; tells++) {
            Check.same("tells " + tells, Check.race(bay + tells + ";").steers(0), due[tells]);
        }
        Check.same("tells -1", Check.race(bay + "0 - 1;").steers(0), 0);
        Check.same("tells -7", Check.race(bay + "0 - 7;").steers(0), 0);
        Check.same("if not told", Check.race("row oo; boat a 0 0 0 0;").steers(0), 1);
        SmellRace race = Check.race("row mor; boat a 1 0 0 0; boat b 0 0 0 0;");
        Check.same("home", race.steers(1), -2);
        race.go(0, 1);
        Check.same("lost", race.steers(0), -2);
        Check.same("no such one", race.steers(2), -1);
        Check.same("no such one", race.steers(-1), -1);
    }

    private static void hoursGoBy() {
        // all steer by how it is as the hour begins, the first boat's coming home is not yet seen
        SmellRace race = Check.race("row oom; row oor; row ooo; boat a 1 0 0 0; boat b 1 1 0 0; boat c 1 2 0 0; boat d 0 0 0 0;"
            + "steers = if placed < 1 then 1 else 3;");
        Check.same("hours(1)", race.hours(1), 1);
        Check.same("a is home", race.boat(0, 2), 1);
        Check.same("b is lost", race.boat(1, 3), 1);
        Check.same("b's x", race.boat(1, 0), -2);
        Check.same("b's y", race.boat(1, 1), -2);
        Check.same("b's place", race.boat(1, 2), -2);
        Check.same("a is not lost", race.boat(0, 3), 0);
        Check.same("c is not lost", race.boat(2, 3), 0);
        Check.same("c went east", race.boat(2, 0), 2);
        Check.same("d went east", race.boat(3, 0), 1);
        Check.same("hours(1)", race.hours(1), 2);
        Check.same("c went west", race.boat(2, 0), 1);
        Check.same("d went west", race.boat(3, 0), 0);
        Check.same("a stays on the mark", race.boat(0, 0), 2);
        Check.same("home", race.count(4), 1);
        Check.same("lost", race.count(5), 2);
        // beyond the bay it stays; places by numbers in one hour
        race = Check.race("row oom; row oom; boat a 0 0 0 0; boat b 1 1 0 0; boat c 1 0 0 0; steers = if which < 1 then 4 else 1;");
        race.hours(1);
        Check.same("a stays", race.boat(0, 1), 0);
        Check.same("b is first", race.boat(1, 2), 1);
        Check.same("c is second", race.boat(2, 2), 2);
        Check.same("hours(0)", race.hours(0), 1);
        Check.same("hours(0) is nothing done", race.count(9), 1);
        Check.same("hours(101)", race.hours(101), -1);
        Check.same("hours(-1)", race.hours(-1), -1);
        Check.same("hours(100)", race.hours(100), 101);
        Check.same("it is", race.count(3), 101);
    }

    private static void byHand() {
        SmellRace race = Check.race("row oomr; row oooo; boat a 1 1 1 0; boat b 3 1 0 0; boat c 0 0 0 0; steers = 0;");
        Check.same("another cell", race.go(0, 1), 0);
        Check.same("x", race.boat(0, 0), 2);
        Check.same("nothing is laid", race.laid(3, 1, 0, false), -2);
        Check.same("no hour goes by", race.count(3), 0);
        Check.same("it stays", race.go(0, 2), 3);
        Check.same("a thing done", race.count(9), 2);
        Check.same("home", race.go(0, 4), 1);
        Check.same("place", race.boat(0, 2), 1);
        Check.same("y", race.boat(0, 1), 0);
        Check.same("lost", race.go(1, 4), 2);
        Check.same("home goes not", race.go(0, 1), -2);
        Check.same("lost goes not", race.go(1, 1), -2);
        Check.same("things done", race.count(9), 4);
        Check.same("way 0", race.go(2, 0), -1);
        Check.same("way 5", race.go(2, 5), -1);
        Check.same("boat 3", race.go(3, 1), -1);
        Check.same("boat -1", race.go(-1, 1), -1);
        Check.same("things done", race.count(9), 4);
        race.go(2, 1);
        Check.same("next place", race.go(2, 1), 1);
        Check.same("place", race.boat(2, 2), 2);
        Check.same("boats in a cell", race.cell(2, 0, 2), 0);
        Check.same("nobody sails", race.count(13), 0);
    }

    private static void pans() {
        SmellRace race = Check.race("row ooo; boat a 0 0 1 0; boat b 2 0 0 0; steers = 0; lies = 0;");
        Check.same("pans", race.count(6), 3);
        Check.same("on", race.boat(0, 4), 1);
        Check.fails("it is on", race.pan(0, true));
        Check.holds("put out", race.pan(0, false));
        Check.fails("it is out", race.pan(0, false));
        Check.same("out", race.boat(0, 4), 0);
        Check.same("what lies stays", race.cell(1, 0, 1), 1);
        race.hours(1);
        Check.same("nothing is laid", race.cell(1, 0, 1), 0);
        Check.holds("put on", race.pan(0, true));
        Check.same("nothing yet", race.cell(1, 0, 1), 0);
        race.hours(1);
        Check.same("laid", race.cell(1, 0, 1), 1);
        Check.fails("boat 2", race.pan(2, false));
        Check.fails("boat -1", race.pan(-1, false));
        Check.same("things done", race.count(9), 4);
        race = Check.race("row mo; boat a 0 0 0 0;");
        Check.holds("at home, too", race.pan(0, false));
    }

    private static void undoing() {
        SmellRace race = Check.race("row oooooooo; boat a 0 0 1 0; boat b 3 0 0 0; lies = 3;");
        race.hours(2);
        race.pan(1, false);
        race.go(0, 3);
        Check.same("x", race.boat(0, 0), 1);
        Check.holds("undo go", race.undo());
        Check.same("x", race.boat(0, 0), 2);
        Check.holds("undo pan", race.undo());
        Check.same("pans", race.count(6), 3);
        Check.holds("undo hours", race.undo());
        Check.same("hour", race.count(3), 0);
        Check.same("x", race.boat(0, 0), 0);
        Check.same("smells", race.cell(3, 0, 1), 2);
        Check.fails("nothing more", race.undo());
        for (int i = 1; i <= 35; i++) {
            race.hours(1);
            Check.same("can be undone", race.count(9), Math.min(i, 30));
        }
        for (int i = 34; i >= 5; i--) {
            Check.holds("undo " + i, race.undo());
            Check.same("hour", race.count(3), i);
        }
        Check.fails("the last 30", race.undo());
        Check.same("hour", race.count(3), 5);
    }

    private static void ranks() {
        SmellRace race = Check.race("row oooom; row oooor; boat a 1 0 0 0; boat b 3 1 0 0; boat c 3 0 0 0; boat d 3 1 0 0; boat e 2 0 0 0;");
        int[] due = {1, 2, 3, 4, 0};
        for (int rank = 0; rank < 5; rank++) {
            Check.same("ranked(" + rank + ")", race.ranked(rank), due[rank]);
            Check.same("its rank", race.boat(due[rank], 7), rank);
        }
        race.go(4, 1);
        race.go(4, 1);
        race.go(2, 1);
        race.go(3, 1);
        race.go(1, 1);
        int[] then = {4, 2, 0, 1, 3};
        for (int rank = 0; rank < 5; rank++) {
            Check.same("then, ranked(" + rank + ")", race.ranked(rank), then[rank]);
            Check.same("its rank", race.boat(then[rank], 7), rank);
        }
        Check.same("ranked(5)", race.ranked(5), -1);
        Check.same("ranked(-1)", race.ranked(-1), -1);
    }

    private static void noSuchOnes() {
        SmellRace race = Check.race("row omr; row ooo; boat a 0 0 0 0; boat b 0 1 0 0; boat c 0 0 0 0;");
        Check.same("boat(3, 0)", race.boat(3, 0), -1);
        Check.same("boat(-1, 0)", race.boat(-1, 0), -1);
        Check.same("boat(0, 8)", race.boat(0, 8), -1);
        Check.same("boat(0, -1)", race.boat(0, -1), -1);
        Check.same("water", race.cell(0, 0, 0), 0);
        Check.same("rock", race.cell(2, 0, 0), 1);
        Check.same("mark", race.cell(1, 0, 0), 2);
        Check.same("boats", race.cell(0, 0, 2), 5);
        Check.same("cell(3, 0, 0)", race.cell(3, 0, 0), -1);
        Check.same("cell(0, 2, 0)", race.cell(0, 2, 0), -1);
        Check.same("cell(-1, 0, 0)", race.cell(-1, 0, 0), -1);
        Check.same("cell(0, -1, 0)", race.cell(0, -1, 0), -1);
        Check.same("cell(0, 0, 3)", race.cell(0, 0, 3), -1);
        Check.same("cell(0, 0, -1)", race.cell(0, 0, -1), -1);
        Check.same("laid(3, 0, 0)", race.laid(3, 0, 0, false), -1);
        Check.same("laid(0, 2, 0)", race.laid(0, 2, 0, true), -1);
        Check.same("laid(0, 0, 3)", race.laid(0, 0, 3, false), -1);
        Check.same("laid(0, 0, -1)", race.laid(0, 0, -1, true), -1);
    }
}

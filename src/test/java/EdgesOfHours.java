/** Promises 6 to 10: boat, cell, laid, wind, steers; and the laws and smells that they go by. */
final class EdgesOfHours {
    private static final String LEAST = "(8192 * 8192 * 32)";
    private static final String MOST = "(8192 * 8192 * 32 - 1)";

    private EdgesOfHours() {
    }

    // ---- 6: boat ----

    // "NONE for others."
    static void p06NoSuchBoat() {
        SmellRace race = Check.race("row oom; boat a 0 0 1 1; boat b 1 0 1 1;");
        for (int k : Edge.outside(0, 1)) {
            for (int what = 0; what <= 7; what++) {
                Check.same("boat(" + k + ", " + what + ")", race.boat(k, what), -1);
            }
        }
    }

    static void p06NoSuchWhat() {
        SmellRace race = Check.race("row oom; boat a 0 0 1 1; boat b 1 0 1 1;");
        for (int what : Edge.outside(0, 7)) {
            Check.same("boat(0, " + what + ")", race.boat(0, what), -1);
            Check.same("boat(1, " + what + ")", race.boat(1, what), -1);
        }
    }

    static void p06SixBoats() {
        StringBuilder text = new StringBuilder("row oooooooo;");
        for (int k = 0; k < 6; k++) {
            text.append("boat ").append((char) ('a' + k)).append(" ").append(k).append(" 0 0 0;");
        }
        SmellRace race = Check.race(text.toString());
        for (int k = 0; k < 6; k++) {
            Check.same("x of " + k, race.boat(k, 0), k);
        }
        Check.same("no seventh", race.boat(6, 0), -1);
    }

    static void p06TheFourCorners() {
        String bay = "row oooooooo;".repeat(5);
        SmellRace race = Check.race(bay + "boat a 0 0 0 0; boat b 7 0 0 0; boat c 0 4 0 0; boat d 7 4 0 0;");
        int[][] due = {{0, 0}, {7, 0}, {0, 4}, {7, 4}};
        for (int k = 0; k < 4; k++) {
            Check.same("x of " + k, race.boat(k, 0), due[k][0]);
            Check.same("y of " + k, race.boat(k, 1), due[k][1]);
        }
    }

    // "(-2 each if it is LOST)", "its PLACE (-2: not HOME)"
    static void p06OneThatIsLost() {
        SmellRace race = Check.race("row or; boat a 0 0 1 9; boat b 0 0 1 9;");
        Check.same("not yet", race.boat(0, 3), 0);
        race.go(0, 1);
        int[] due = {-2, -2, -2, 1, 1, 0, 0, 1};
        for (int what = 0; what < due.length; what++) {
            Check.same("boat(0, " + what + ")", race.boat(0, what), due[what]);
        }
    }

    static void p06OneThatIsHome() {
        SmellRace race = Check.race("row or; row om; boat a 0 1 1 9; boat b 0 1 1 9;");
        Check.same("not yet", race.boat(1, 2), -2);
        race.go(1, 1);
        int[] due = {1, 1, 1, 0, 1, 0, 0, 0};
        for (int what = 0; what < due.length; what++) {
            Check.same("boat(1, " + what + ")", race.boat(1, what), due[what]);
        }
    }

    static void p06PlacesFromTheFirstToTheSixth() {
        StringBuilder text = new StringBuilder("row oooooom;");
        for (int k = 0; k < 6; k++) {
            text.append("boat ").append((char) ('a' + k)).append(" ").append(k).append(" 0 0 0;");
        }
        SmellRace race = Check.race(text.toString());
        race.hours(6);
        for (int k = 0; k < 6; k++) {
            Check.same("place of " + k, race.boat(k, 2), 6 - k);
        }
    }

    static void p06PlacesOfOneHourByNumbers() {
        SmellRace race = Check.race("row oom; row oom; boat a 1 1 0 0; boat b 1 0 0 0; boat c 2 0 0 0;");
        race.hours(1);
        Check.same("c", race.boat(2, 2), 1);
        Check.same("a", race.boat(0, 2), 2);
        Check.same("b", race.boat(1, 2), 3);
    }

    // "A BOAT .. SMELLS a DISH (not its own)"
    static void p06ItsOwnDishIsNotSmelled() {
        SmellRace race = Check.race("row oo; boat a 0 0 1 9;");
        Check.same("it is smelt there", race.cell(0, 0, 1), 1);
        Check.same("alone", race.boat(0, 5), 0);
        SmellRace two = Check.race("row oo; boat a 0 0 0 9; boat b 0 0 0 9;");
        Check.same("a smells b", two.boat(0, 5), 2);
        Check.same("b smells a", two.boat(1, 5), 1);
    }

    static void p06AllTheOthersAreSmelled() {
        StringBuilder text = new StringBuilder("row o; steers = 0;");
        for (int k = 0; k < 6; k++) {
            text.append("boat ").append((char) ('a' + k)).append(" 0 0 0 0;");
        }
        SmellRace race = Check.race(text.toString());
        for (int k = 0; k < 6; k++) {
            Check.same("all but " + k, race.boat(k, 5), 63 ^ 1 << k);
        }
    }

    // "laid no more than its NOSE hours ago"
    static void p06EachNose() {
        for (int nose = 0; nose <= 9; nose++) {
            SmellRace race = Check.race("row oo; boat a 0 0 1 0; boat b 1 0 0 " + nose + "; lies = 9; steers = 0;");
            race.pan(0, false);
            for (int hour = 0; hour <= 11; hour++) {
                Check.same("nose " + nose + " hour " + hour, race.boat(1, 5), hour <= nose ? 1 : 0);
                Check.same("it lies", race.cell(1, 0, 1) & 1, hour <= 9 ? 1 : 0);
                race.hours(1);
            }
        }
    }

    // "it lies for as many hours more as LIES tells"
    static void p06WhatLiesNoMoreIsNotSmelled() {
        for (int lies = 0; lies <= 9; lies++) {
            SmellRace race = Check.race("row oo; boat a 0 0 1 0; boat b 1 0 0 9; steers = 0; lies = " + lies + ";");
            race.pan(0, false);
            for (int hour = 0; hour <= 11; hour++) {
                Check.same("lies " + lies + " hour " + hour, race.boat(1, 5), hour <= lies ? 1 : 0);
                race.hours(1);
            }
        }
    }

    static void p06TheNoseCountsFromTheLatestLaying() {
        SmellRace race = Check.race("row oo; boat a 0 0 1 0; boat b 1 0 0 1; lies = 9; steers = 0;");
        race.hours(5);
        race.pan(0, false);
        race.hours(1);
        Check.same("one hour ago", race.boat(1, 5), 1);
        race.hours(1);
        Check.same("two hours ago", race.boat(1, 5), 0);
    }

    // "neither LOST nor HOME, SMELLS"
    static void p06WhoIsHomeOrLostSmellsNone() {
        SmellRace race = Check.race("row omr; row ooo; boat a 0 0 2 0; boat b 1 1 9 9; boat c 2 1 9 9; steers = 0; wind = 0;");
        race.go(1, 4);
        race.go(2, 4);
        Check.same("a's dish is smelt on the mark", race.cell(1, 0, 1) & 1, 1);
        Check.same("home", race.boat(1, 5), 0);
        Check.same("lost", race.boat(2, 5), 0);
    }

    private static int lot(int seed, int which) {
        long h = seed;
        for (long it : new long[] {69, which}) {
            h = (h ^ it) * 1103515245L + 12345L & 0xffffffffL;
            h ^= h >> 15;
        }
        return (int) ((h >> 1) % 100);
    }

    // "LOT 100 of the SEED and 16 * the hour and its number is less than COLD"
    static void p06AColdJustBelowAndAtTheLot() {
        for (int seed : new int[] {0, 1, 5000, 9998, 9999}) {
            for (int k = 0; k < 3; k++) {
                int lot = lot(seed, k);
                String text = "row o; boat a 0 0 0 0; boat b 0 0 0 0; boat c 0 0 0 0; seed " + seed + "; cold ";
                Check.same("as many as the lot", Check.race(text + lot + ";").boat(k, 6), 0);
                Check.same("one more", Check.race(text + (lot + 1) + ";").boat(k, 6), 1);
            }
        }
    }

    static void p06ColdsOfManyHours() {
        SmellRace race = Check.race("row oo; boat a 0 0 1 9; boat b 1 0 0 9; steers = 0; cold 50; seed 9999;");
        for (int i = 0; i < 60; i++) {
            int hour = race.count(3);
            boolean cold = lot(9999, 16 * hour + 1) < 50;
            Check.same("hour " + hour, race.boat(1, 6), cold ? 1 : 0);
            Check.same("smells in hour " + hour, race.boat(1, 5), cold ? 0 : 1);
            race.hours(i < 30 ? 1 : 100);
        }
    }

    static void p06ALotOf0HasAColdOnlyIfThereAreAny() {
        int seed = 0;
        while (lot(seed, 0) != 0) {
            seed++;
        }
        String text = "row o; boat a 0 0 0 0; seed " + seed + "; cold ";
        Check.same("cold 0", Check.race(text + "0;").boat(0, 6), 0);
        Check.same("cold 1", Check.race(text + "1;").boat(0, 6), 1);
    }

    static void p06ALotOf99HasAColdAtLast() {
        int seed = 0;
        while (lot(seed, 0) != 99) {
            seed++;
        }
        String text = "row o; boat a 0 0 0 0; seed " + seed + "; cold ";
        Check.same("cold 99", Check.race(text + "99;").boat(0, 6), 0);
        Check.same("cold 100", Check.race(text + "100;").boat(0, 6), 1);
    }

    static void p06Cold0AndCold100() {
        SmellRace none = Check.race("row o; boat a 0 0 0 9; boat b 0 0 0 9; cold 0; steers = 0;");
        SmellRace all = Check.race("row o; boat a 0 0 0 9; boat b 0 0 0 9; cold 100; steers = 0;");
        for (int hour = 0; hour < 40; hour++) {
            Check.same("none has one", none.boat(0, 6), 0);
            Check.same("it smells", none.boat(0, 5), 2);
            Check.same("each has one", all.boat(0, 6), 1);
            Check.same("it smells none", all.boat(0, 5), 0);
            none.hours(1);
            all.hours(1);
        }
    }

    // "of alike ones the first by numbers; HOME ones ahead by PLACES, LOST ones behind all by numbers"
    static void p06RanksOfAllSorts() {
        SmellRace race = Check.race("row ooom; row ooor; boat a 2 1 0 0; boat b 2 0 0 0; boat c 1 0 0 0; boat d 2 1 0 0; boat e 2 0 0 0; boat f 1 1 0 0;");
        ranksAre(race, 0, 1, 3, 4, 2, 5);
        race.go(4, 1);
        ranksAre(race, 4, 0, 1, 3, 2, 5);
        race.go(3, 1);
        ranksAre(race, 4, 0, 1, 2, 5, 3);
        race.go(1, 1);
        race.go(0, 1);
        ranksAre(race, 4, 1, 2, 5, 0, 3);
        race.go(2, 1);
        race.go(2, 1);
        race.go(5, 1);
        race.go(5, 1);
        ranksAre(race, 4, 1, 2, 0, 3, 5);
    }

    static void p06RanksOverTheWholeBay() {
        SmellRace race = Check.race("row oooooooo; boat a 0 0 0 0; boat b 7 0 0 0; boat c 0 0 0 0; boat d 7 0 0 0;");
        ranksAre(race, 1, 3, 0, 2);
    }

    private static void ranksAre(SmellRace race, int... boats) {
        for (int rank = 0; rank < boats.length; rank++) {
            Check.same("rank of " + boats[rank], race.boat(boats[rank], 7), rank);
            Check.same("ranked(" + rank + ")", race.ranked(rank), boats[rank]);
        }
    }

    // ---- 7: cell ----

    // "NONE: no such ones."
    static void p07NoSuchCell() {
        SmellRace race = Check.race("row ooo; row ooo; boat a 0 0 1 0;");
        for (int what = 0; what <= 2; what++) {
            for (int x : Edge.outside(0, 2)) {
                Check.same("cell(" + x + ", 1, " + what + ")", race.cell(x, 1, what), -1);
            }
            for (int y : Edge.outside(0, 1)) {
                Check.same("cell(2, " + y + ", " + what + ")", race.cell(2, y, what), -1);
            }
        }
    }

    static void p07NoSuchCellOfAFullBay() {
        SmellRace race = Check.race("row oooooooo;".repeat(5));
        Check.same("the last one", race.cell(7, 4, 0), 0);
        for (int x : Edge.outside(0, 7)) {
            Check.same("cell(" + x + ", 0, 0)", race.cell(x, 0, 0), -1);
        }
        for (int y : Edge.outside(0, 4)) {
            Check.same("cell(0, " + y + ", 0)", race.cell(0, y, 0), -1);
        }
    }

    static void p07NoSuchWhat() {
        SmellRace race = Check.race("row ooo;");
        for (int what : Edge.outside(0, 2)) {
            Check.same("cell(0, 0, " + what + ")", race.cell(0, 0, what), -1);
        }
    }

    static void p07WhatEachIs() {
        SmellRace race = Check.race("row orm; row mro;");
        int[][] due = {{0, 1, 2}, {2, 1, 0}};
        for (int y = 0; y < 2; y++) {
            for (int x = 0; x < 3; x++) {
                Check.same("cell(" + x + ", " + y + ", 0)", race.cell(x, y, 0), due[y][x]);
            }
        }
    }

    static void p07AllDishesAndBoatsInOneCell() {
        StringBuilder text = new StringBuilder("row oo; steers = 0; wind = 1;");
        for (int k = 0; k < 6; k++) {
            text.append("boat ").append((char) ('a' + k)).append(" 0 0 0 0;");
        }
        SmellRace race = Check.race(text.toString());
        Check.same("dishes", race.cell(0, 0, 1), 63);
        Check.same("boats", race.cell(0, 0, 2), 63);
        Check.same("no dishes", race.cell(1, 0, 1), 0);
        Check.same("no boats", race.cell(1, 0, 2), 0);
    }

    // "BOATS in it, neither LOST nor HOME"
    static void p07WhoIsHomeOrLostIsNotInIt() {
        SmellRace race = Check.race("row mor; boat a 1 0 0 0; boat b 1 0 0 0; boat c 1 0 0 0;");
        race.go(0, 3);
        race.go(1, 1);
        Check.same("the mark", race.cell(0, 0, 2), 0);
        Check.same("the rock", race.cell(2, 0, 2), 0);
        Check.same("the water", race.cell(1, 0, 2), 4);
    }

    // ---- 8: laid ----

    // "-2: never; NONE: no such ones."
    static void p08NoSuchOnes() {
        SmellRace race = Check.race("row ooo; row ooo; boat a 0 0 0 0; boat b 0 0 0 0;");
        for (boolean till : new boolean[] {false, true}) {
            for (int x : Edge.outside(0, 2)) {
                Check.same("x " + x, race.laid(x, 0, 0, till), -1);
            }
            for (int y : Edge.outside(0, 1)) {
                Check.same("y " + y, race.laid(0, y, 0, till), -1);
            }
            for (int dish : Edge.outside(0, 1)) {
                Check.same("dish " + dish, race.laid(0, 0, dish, till), -1);
            }
        }
    }

    static void p08Never() {
        SmellRace race = Check.race("row oor; boat a 0 0 1 0; steers = 0;");
        for (boolean till : new boolean[] {false, true}) {
            Check.same("water", race.laid(2, 0, 0, till), -2);
        }
        Check.same("laid in hour 0", race.laid(1, 0, 0, false), 0);
        race.hours(100);
        Check.same("on a rock never", race.laid(2, 0, 0, false), -2);
    }

    static void p08TheLatestTime() {
        SmellRace race = Check.race("row ooo; boat a 0 0 0 0; lies = if hour < 1 then 9 else 0;");
        race.hours(1);
        Check.same("where one was", race.laid(0, 0, 0, false), 0);
        Check.same("till", race.laid(0, 0, 0, true), 9);
        race.go(0, 3);
        Check.same("nothing is laid by hand", race.laid(0, 0, 0, false), 0);
        race.hours(1);
        Check.same("it went on", race.laid(1, 0, 0, false), 2);
        Check.same("and not where it was", race.laid(0, 0, 0, false), 0);
        SmellRace still = Check.race("row oo; boat a 0 0 1 0; steers = 0; lies = if hour < 1 then 9 else 0;");
        still.hours(1);
        Check.same("the latest laying counts, though it is the shorter one", still.laid(1, 0, 0, true), 1);
        still.pan(0, false);
        still.hours(1);
        Check.same("it is not smelt", still.cell(1, 0, 1), 0);
        Check.same("it was laid all the same", still.laid(1, 0, 0, false), 1);
    }

    // "as LIES tells, held to 0 .. 9"
    static void p08HeldTo0And9() {
        String[] tells = {"0 - 1", "0", "1", "8", "9", "10", "9999", LEAST, MOST, "1 / 0"};
        int[] due = {0, 0, 1, 8, 9, 9, 9, 0, 9, 0};
        for (int i = 0; i < tells.length; i++) {
            SmellRace race = Check.race("row o; boat a 0 0 0 0; steers = 0; lies = " + tells[i] + ";");
            Check.same("lies = " + tells[i], race.laid(0, 0, 0, true), due[i]);
            race.hours(3);
            Check.same("in hour 3, lies = " + tells[i], race.laid(0, 0, 0, true), 3 + due[i]);
        }
    }

    static void p08SmeltInTheLastHourAndNotInTheNext() {
        for (int lies = 0; lies <= 9; lies++) {
            SmellRace race = Check.race("row o; boat a 0 0 0 0; steers = 0; lies = " + lies + ";");
            race.pan(0, false);
            race.hours(lies);
            Check.same("lies " + lies + ", the last hour", race.cell(0, 0, 1), 1);
            Check.same("bare", race.bare(0), 0);
            race.hours(1);
            Check.same("lies " + lies + ", the next", race.cell(0, 0, 1), 0);
            Check.same("bare", race.bare(0), 1);
        }
    }

    // "(hour; strong: the BOAT's; which; east, south: the CELL's)"; "a VAR not told for a LAW is 0 in it"
    static void p08VarsOfLies() {
        String bay = "row ooo; row ooo; row ooo; boat z 2 2 0 0; boat a 0 1 2 0; wind = 0; steers = 0; lies = ";
        String[] vars = {"hour", "east", "south", "blows", "smells", "near", "which", "strong", "placed"};
        int[][] due = {{3, 3, 3}, {0, 1, 2}, {1, 1, 1}, {0, 0, 0}, {0, 0, 0}, {0, 0, 0}, {1, 1, 1}, {2, 2, 2}, {0, 0, 0}};
        for (int i = 0; i < vars.length; i++) {
            SmellRace race = Check.race(bay + vars[i] + ";");
            race.hours(3);
            for (int x = 0; x < 3; x++) {
                Check.same("lies = " + vars[i] + " at " + x, race.laid(x, 1, 1, true) - 3, due[i][x]);
            }
        }
    }

    // "the BOAT's own CELL and the STRONG next ones the way that the WIND blows"
    static void p08EachStrength() {
        for (int strong = 0; strong <= 9; strong++) {
            SmellRace race = Check.race("row oooooooo; boat a 0 0 " + strong + " 0;");
            for (int x = 0; x < 8; x++) {
                Check.same("strong " + strong + " at " + x, race.cell(x, 0, 1), x <= strong ? 1 : 0);
            }
        }
    }

    // "none beyond the BAY"
    static void p08NoneBeyondTheBay() {
        for (int wind = 0; wind < 4; wind++) {
            int[][] next = {{1, 0}, {0, 1}, {-1, 0}, {0, -1}};
            for (int strong : new int[] {0, 1, 2, 9}) {
                SmellRace race = Check.race("row ooo;row ooo;row ooo;boat a 1 1 " + strong + " 0; wind = " + wind + ";");
                int cells = 0;
                for (int c = 0; c < 9; c++) {
                    cells += race.cell(c % 3, c / 3, 1);
                }
                Check.same("wind " + wind + " strong " + strong, cells, Math.min(2, strong + 1));
                Check.same("its own", race.cell(1, 1, 1), 1);
                Check.same("the next", race.cell(1 + next[wind][0], 1 + next[wind][1], 1), strong > 0 ? 1 : 0);
            }
        }
        // not on the next row's first cell either
        SmellRace race = Check.race("row oooooooo; row oooooooo; boat a 7 0 9 0; boat b 0 1 9 0; wind = if hour < 1 then 0 else 2;");
        Check.same("east of the last", race.cell(0, 1, 1), 2);
        race.hours(1);
        Check.same("west of the first", race.cell(7, 0, 1) & 2, 0);
    }

    // "none behind a rock, that one not either"
    static void p08NoneBehindARock() {
        int[][] next = {{1, 0}, {0, 1}, {-1, 0}, {0, -1}};
        for (int wind = 0; wind < 4; wind++) {
            SmellRace near = Check.race("row ooooo;row ooroo;row ororo;row ooroo;row ooooo;boat a 2 2 9 0; wind = " + wind + ";");
            Check.same("its own", near.cell(2, 2, 1), 1);
            for (int far = 1; far <= 2; far++) {
                Check.same("wind " + wind + " far " + far, near.cell(2 + far * next[wind][0], 2 + far * next[wind][1], 1), 0);
            }
        }
        SmellRace race = Check.race("row oooroooo; boat a 0 0 9 0;");
        int[] due = {1, 1, 1, 0, 0, 0, 0, 0};
        for (int x = 0; x < 8; x++) {
            Check.same("at " + x, race.cell(x, 0, 1), due[x]);
        }
        SmellRace tail = Check.race("row oor; boat a 0 0 1 0;");
        Check.same("just before it", tail.cell(1, 0, 1), 1);
    }

    static void p08OverTheMark() {
        SmellRace race = Check.race("row omo; boat a 0 0 2 0; steers = 0;");
        Check.same("on it", race.cell(1, 0, 1), 1);
        Check.same("behind it", race.cell(2, 0, 1), 1);
    }

    // "from its BOAT, pan on, neither LOST nor HOME"
    static void p08WhoLaysNothing() {
        SmellRace race = Check.race("row mor; row ooo; boat a 1 0 0 0; boat b 1 0 0 0; boat c 1 1 0 0; boat d 1 1 0 0; steers = 0;");
        race.go(0, 3);
        race.go(1, 1);
        race.pan(2, false);
        race.hours(1);
        Check.same("home", race.laid(0, 0, 0, false), -2);
        Check.same("lost", race.laid(2, 0, 1, false), -2);
        Check.same("pan out", race.laid(1, 1, 2, false), 0);
        Check.same("pan on", race.laid(1, 1, 3, false), 1);
    }

    // ---- 9: wind ----

    // "WIND in an hour (0 .. 999): 1 .. 4; NONE: no such one."
    static void p09TheFirstAndTheLastHour() {
        SmellRace race = Check.race("wind = hour;");
        Check.same("wind(0)", race.wind(0), 1);
        Check.same("wind(999)", race.wind(999), 4);
    }

    static void p09NoSuchHour() {
        SmellRace race = Check.race("wind = hour;");
        for (int hour : Edge.outside(0, 999)) {
            Check.same("wind(" + hour + ")", race.wind(hour), -1);
        }
    }

    static void p09AnHourBeyond999HasAWindToo() {
        SmellRace race = Check.race("wind = hour;");
        for (int i = 0; i < 10; i++) {
            race.hours(100);
        }
        race.hours(2);
        Check.same("hour", race.count(3), 1002);
        Check.same("the wind now", race.count(7), 3);
        Check.same("wind(1002)", race.wind(1002), -1);
    }

    private static void wind(String law, int due) {
        Check.same("wind = " + law, Check.race("wind = " + law + ";").wind(7), due);
    }

    // "its rest by 4 and 1 more (below 0: 0, so 1)"
    static void p09TheRestBy4() {
        for (int tells = 0; tells <= 9; tells++) {
            wind("" + tells, tells % 4 + 1);
        }
        wind(MOST, 4);
    }

    static void p09Below0() {
        for (int below = 1; below <= 5; below++) {
            wind("0 - " + below, 1);
        }
        wind(LEAST, 1);
    }

    // "the E of the first if that holds (one less than the other), else the last one"
    static void p09OneLessThanTheOther() {
        wind("if 6 < 7 then 1 else 2", 2);
        wind("if 7 < 7 then 1 else 2", 3);
        wind("if 8 < 7 then 1 else 2", 3);
        wind("if 0 - 1 < 0 then 1 else 2", 2);
        wind("if " + LEAST + " < " + MOST + " then 1 else 2", 2);
        wind("if " + MOST + " < " + LEAST + " then 1 else 2", 3);
    }

    static void p09TheFirstIfThatHolds() {
        for (int holds = 0; holds <= 4; holds++) {
            StringBuilder law = new StringBuilder();
            for (int i = 0; i < 4; i++) {
                law.append("if ").append(holds).append(" < ").append(i + 1).append(" then ").append(i).append(" else ");
            }
            wind(law + "1 + 1", holds == 4 ? 3 : holds + 1);
        }
    }

    // "ints of 32 bits that wrap"
    static void p09IntsWrap() {
        wind("if " + MOST + " + 1 < 0 then 1 else 2", 2);
        wind("if 0 < " + LEAST + " - 1 then 1 else 2", 2);
        wind("8192 * 8192 * 64 + 3", 4);
        wind("if 9999 * 9999 * 9999 < 0 then 1 else 2", 9999 * 9999 * 9999 < 0 ? 2 : 3);
        wind("9999 * 9999 * 9999 * 9999 / 1024", Math.max(0, 9999 * 9999 * 9999 * 9999 / 1024) % 4 + 1);
        wind("if (0 - " + LEAST + ") < 0 then 1 else 2", 2);
    }

    static void p09TheLeastDividedByMinus1() {
        wind("if " + LEAST + " / (0 - 1) < 0 then 1 else 2", 2);
    }

    // "/ rounded towards 0"
    static void p09RoundedTowards0() {
        wind("7 / 2", 4);
        wind("(0 - 7) / 2 + 3", 1);
        wind("7 / (0 - 2) + 3", 1);
        wind("(0 - 7) / (0 - 2)", 4);
        wind("(0 - 1) / 2 + 2", 3);
    }

    // "a LAW in which something that is looked at is divided by 0 is 0"
    static void p09DividedBy0WhereItIsLookedAt() {
        wind("3 + 1 / 0", 1);
        wind("0 / 0 + 3", 1);
        wind("3 + 2 * (5 / (hour - 7))", 1);
        wind("3 - 1 / (1 / 2)", 1);
        wind("if 1 / 0 < 5 then 3 else 3", 1);
        wind("if 5 < 1 / 0 then 3 else 3", 1);
        wind("if 0 < 1 then 1 / 0 else 3", 1);
        wind("if 1 < 1 then 3 else 3 / 0", 1);
        wind("if 1 < 1 then 3 else if 1 / 0 < 1 then 3 else 3", 1);
        wind("if 1 < 1 then 3 else if 0 < 1 then 3 + 1 / 0 else 3", 1);
    }

    static void p09DividedBy0WhereItIsNotLookedAt() {
        wind("if 0 < 1 then 3 else 1 / 0", 4);
        wind("if 1 < 0 then 1 / 0 else 3", 4);
        wind("if 0 < 1 then 3 else if 1 / 0 < 1 then 1 else 1", 4);
        wind("if 0 < 1 then 3 else if 1 < 1 / 0 then 1 else 1", 4);
        wind("if 1 < 0 then 1 else if 0 < 1 then 3 else 1 / 0", 4);
    }

    static void p09ADivisionBy0IsOfThatHourAlone() {
        SmellRace race = Check.race("wind = 3 + 0 / (hour - 5);");
        Check.same("hour 4", race.wind(4), 4);
        Check.same("hour 5", race.wind(5), 1);
        Check.same("hour 6", race.wind(6), 4);
    }

    // "a VAR not told for a LAW is 0 in it"
    static void p09VarsOfTheWind() {
        for (String var : new String[] {"east", "south", "blows", "smells", "near", "which", "strong", "placed"}) {
            SmellRace race = Check.race("row mooo; row oooo; boat a 0 0 2 9; boat b 2 1 3 9; boat c 2 1 3 9; wind = 2 + " + var + ";");
            race.hours(1);
            race.steers(1);
            Check.same(var, race.wind(5), 3);
        }
        Check.same("hour", Check.race("wind = 2 + hour;").wind(5), 4);
    }

    static void p09ALawOfManyTokens() {
        wind("((((((1 + 2) * 3 - 4) * 5 - 6) * 7 - 8) * 9 - 1) * 2 - 3) * 3 + 2", (((((((1 + 2) * 3 - 4) * 5 - 6) * 7 - 8) * 9 - 1) * 2 - 3) * 3 + 2) % 4 + 1);
        wind("1 + (2 * (3 + (4 * (5 + (6 * (7 + 8 * 9)))))) + 0", (1 + 2 * (3 + 4 * (5 + 6 * (7 + 8 * 9)))) % 4 + 1);
        wind("1" + " + 1".repeat(197), 198 % 4 + 1);
    }

    // ---- 10: steers ----

    // "-2: LOST, HOME; NONE: no such one."
    static void p10NoSuchBoat() {
        SmellRace race = Check.race("row om; boat a 0 0 0 0; boat b 1 0 0 0;");
        for (int k : Edge.outside(0, 1)) {
            Check.same("steers(" + k + ")", race.steers(k), -1);
        }
    }

    static void p10LostOrHome() {
        SmellRace race = Check.race("row rom; boat a 1 0 0 0; boat b 1 0 0 0;");
        Check.same("not yet", race.steers(0), 1);
        race.go(0, 3);
        race.go(1, 1);
        Check.same("lost", race.steers(0), -2);
        Check.same("home", race.steers(1), -2);
    }

    private static void way(String law, int due) {
        Check.same("steers = " + law, Check.race("row ooo; boat a 1 0 0 0; steers = " + law + ";").steers(0), due);
    }

    // "the rest by 5 of what the LAW tells (below 0: 0)"
    static void p10TheRestBy5() {
        for (int tells = 0; tells <= 11; tells++) {
            way("" + tells, tells % 5);
        }
        way(MOST, 2);
    }

    static void p10Below0() {
        for (int below = 1; below <= 6; below++) {
            way("0 - " + below, 0);
        }
        way(LEAST, 0);
    }

    static void p10DividedBy0() {
        way("4 + 1 / 0", 0);
        way("if 0 < 1 then 4 else 1 / 0", 4);
    }

    // "hour; east, south: its X, Y; blows: the WIND; smells ..; near ..; which; strong; placed"
    static void p10VarsOfSteers() {
        String bay = "row mooo; row oooo; row oooo; boat h 0 0 0 0; boat a 2 2 0 0; boat b 3 1 4 9; boat c 0 1 3 0; wind = hour + 2; steers = ";
        String[] vars = {"hour", "east", "south", "blows", "smells", "near", "which", "strong", "placed"};
        int[] now = {0, 3, 1, 3, 0, -1, 2, 4, 1};
        int[] then = {1, 3, 1, 4, 1, 3, 2, 4, 1};
        for (int i = 0; i < vars.length; i++) {
            SmellRace race = Check.race(bay + "if which < 2 then 0 else if 2 < which then 0 else " + vars[i] + " + 1;");
            Check.same("now, steers = " + vars[i], race.steers(2), (now[i] + 1) % 5);
            SmellRace later = Check.race(bay + "if hour < 1 then 0 else " + vars[i] + " + 1; lies = 9;");
            later.go(3, 1);
            later.go(3, 1);
            later.go(3, 1);
            later.hours(1);
            Check.same("in hour 1, steers = " + vars[i], later.steers(2), (then[i] + 1) % 5);
        }
    }

    // "near: the least number of these (-1: none)"
    static void p10NearAndSmellsOfNone() {
        way("near + 5", 4);
        way("smells + 3", 3);
    }

    static void p10NearIsTheLeastOfAll() {
        StringBuilder boats = new StringBuilder("row o;");
        for (int k = 0; k < 6; k++) {
            boats.append("boat ").append((char) ('a' + k)).append(" 0 0 0 0;");
        }
        SmellRace near = Check.race(boats + "steers = near + 2;");
        Check.same("of 0", near.steers(0), 3);
        Check.same("of 1", near.steers(1), 2);
        Check.same("of 5", near.steers(5), 2);
        Check.same("five are smelled", Check.race(boats + "steers = smells - 1;").steers(3), 4);
    }

    // "placed: how many are HOME"
    static void p10PlacedFrom0Up() {
        SmellRace race = Check.race("row oom; boat a 0 0 0 0; boat b 1 0 0 0; boat c 1 0 0 0; steers = placed + 2;");
        Check.same("none", race.steers(0), 2);
        race.go(1, 1);
        Check.same("one", race.steers(0), 3);
        race.go(2, 1);
        Check.same("two", race.steers(0), 4);
    }
}

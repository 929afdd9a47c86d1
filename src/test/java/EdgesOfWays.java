/** Promises 18 to 21, 26 and 27: soonest, route, hidden, inPlace, cover, out. */
final class EdgesOfWays {
    private EdgesOfWays() {
    }

    /** a sails, b is home, c is lost, d has no way to a mark. */
    private static SmellRace four() {
        SmellRace race = Check.race("row ooomr; row ooror; row rrrro; boat a 0 0 1 9; boat b 2 0 1 9; boat c 1 1 1 9; boat d 4 2 1 9; steers = 0;");
        race.go(1, 1);
        race.go(2, 1);
        return race;
    }

    // ---- 18: soonest ----

    // "SOONEST; -2: not by then, LOST (0: HOME); NONE: no such one."
    static void p18NoSuchBoat() {
        SmellRace race = four();
        for (int k : Edge.outside(0, 3)) {
            Edge.refused("soonest(" + k + ")", race, -1, () -> race.soonest(k));
        }
    }

    static void p18HomeLostAndNoWay() {
        SmellRace race = four();
        Check.same("a", race.soonest(0), 3);
        Check.same("home", race.soonest(1), 0);
        Check.same("lost", race.soonest(2), -2);
        Check.same("walled in", race.soonest(3), -2);
        Check.same("no mark", Check.race("row oooooooo; boat a 0 0 0 0;").soonest(0), -2);
    }

    static void p18OneHour() {
        for (String text : new String[] {"row om; boat a 0 0 0 0;", "row mo; boat a 1 0 0 0;", "row o; row m; boat a 0 0 0 0;",
            "row m; row o; boat a 0 1 0 0;"}) {
            Check.same(text, Check.race(text).soonest(0), 1);
        }
    }

    static void p18TheLongestWays() {
        SmellRace across = Check.race("row oooooooo; row rrrrrrro; row oooooooo; row orrrrrrr; row ooooooom; boat a 0 0 0 0;");
        Check.same("across", across.soonest(0), 25);
        Check.same("corner to corner", Check.race("row oooooooo;".repeat(4) + "row ooooooom; boat a 0 0 0 0;").soonest(0), 11);
    }

    static void p18NoWayRoundTheBaysEdges() {
        Check.same("east of the last is not the next row", Check.race("row rrrrrrro; row mrrrrrrr; boat a 7 0 0 0;").soonest(0), -2);
        Check.same("the way back", Check.race("row oooooooo; row mooooooo; boat a 7 0 0 0;").soonest(0), 8);
        Check.same("of short rows", Check.race("row ooo; row moo; boat a 2 0 0 0;").soonest(0), 3);
        Check.same("below the last", Check.race("row mr; row rr; row oo; boat a 0 2 0 0;").soonest(0), -2);
    }

    static void p18FromNowOn() {
        SmellRace race = Check.race("row oooom; boat a 0 0 0 0; steers = 3;");
        Check.same("four", race.soonest(0), 4);
        race.go(0, 1);
        Check.same("three", race.soonest(0), 3);
        race.hours(1);
        Check.same("four again, for it went west", race.soonest(0), 4);
    }

    // ---- 19: route ----

    // "NONE (looked at first): no such BOAT, i below 0"
    static void p19NoSuchOnesAreLookedAtFirst() {
        SmellRace race = four();
        for (int k : Edge.outside(0, 3)) {
            Edge.refused("route(" + k + ", 0)", race, -1, () -> race.route(k, 0));
        }
        for (int k = 0; k < 4; k++) {
            Check.same("route(" + k + ", -1)", race.route(k, -1), -1);
            Check.same("route(" + k + ", least)", race.route(k, Integer.MIN_VALUE), -1);
        }
    }

    // "-2: there is none (not by then, LOST, HOME)"
    static void p19ThereIsNone() {
        SmellRace race = four();
        for (int k = 1; k < 4; k++) {
            for (int i : new int[] {0, 1, 40, Integer.MAX_VALUE}) {
                Check.same("route(" + k + ", " + i + ")", race.route(k, i), -2);
            }
        }
    }

    // "NONE: not so many."
    static void p19NotSoMany() {
        SmellRace race = four();
        Check.same("the last", race.route(0, 2), 1);
        for (int i : new int[] {3, 4, 40, Integer.MAX_VALUE}) {
            Check.same("route(0, " + i + ")", race.route(0, i), -1);
        }
        SmellRace one = Check.race("row om; boat a 0 0 0 0;");
        Check.same("one way", one.route(0, 0), 1);
        Check.same("not two", one.route(0, 1), -1);
    }

    // "each WAY the first by number by which it is still so soon"
    static void p19TheFirstByNumber() {
        String[] bays = {"row omo; row mom; row omo;", "row omo; row moo; row omo;", "row omo; row moo; row ooo;", "row omo; row ooo; row ooo;"};
        for (int i = 0; i < 4; i++) {
            Check.same(bays[i], Check.race(bays[i] + "boat a 1 1 0 0;").route(0, 0), i + 1);
        }
        SmellRace race = Check.race("row mooo; row oooo; row oooo; boat a 3 2 0 0;");
        int[] due = {3, 3, 3, 4, 4};
        for (int i = 0; i < 5; i++) {
            Check.same("route(0, " + i + ")", race.route(0, i), due[i]);
        }
    }

    static void p19GoneByHandItLeadsHome() {
        SmellRace race = Check.race("row oooooooo; row rrrrrrro; row oooooooo; row orrrrrrr; row ooooooom; boat a 0 0 0 0;");
        int[] ways = new int[25];
        for (int i = 0; i < 25; i++) {
            ways[i] = race.route(0, i);
        }
        for (int i = 0; i < 25; i++) {
            Check.same("step " + i, race.go(0, ways[i]), i < 24 ? 0 : 1);
        }
    }

    // ---- 20: hidden ----

    // "HIDDEN; -2: not by then, LOST (0: HOME); NONE: no such one."
    static void p20NoSuchBoat() {
        SmellRace race = four();
        for (int k : Edge.outside(0, 3)) {
            Edge.refused("hidden(" + k + ")", race, -1, () -> race.hidden(k));
        }
    }

    static void p20HomeLostAndNoWay() {
        SmellRace race = four();
        Check.same("a", race.hidden(0), 3);
        Check.same("home", race.hidden(1), 0);
        Check.same("lost", race.hidden(2), -2);
        Check.same("walled in", race.hidden(3), -2);
    }

    // "the fewest HOURS to a mark (40 at most)"
    static void p20FortyHoursAndOneMore() {
        String text = "row oom; boat a 0 0 0 0; boat b 1 0 0 0; steers = if hour < ";
        Check.same("40", Check.race(text + "38 then 0 else 1;").hidden(0), 40);
        Check.same("41", Check.race(text + "39 then 0 else 1;").hidden(0), -2);
    }

    // "as each of those hours but the last begins (not the one that is)"
    static void p20TheHourThatIsCountsNot() {
        SmellRace race = Check.race("row oom; row ooo; boat a 0 0 9 0; boat b 1 0 0 0; steers = 2;");
        Check.same("b is in the wind now and gone then", race.hidden(0), 2);
    }

    static void p20TheLastHourCountsNot() {
        SmellRace race = Check.race("row oom; row ooo; boat a 0 0 0 0; boat b 1 1 0 0; steers = if hour < 1 then 0 else 4;");
        Check.same("b comes to where a was as a is home", race.hidden(0), 2);
        Check.same("one hour has none that counts", Check.race("row om; boat a 0 0 9 0; boat b 0 0 0 0; steers = 0;").hidden(0), 1);
    }

    static void p20TheHourAheadOfTheLastCounts() {
        SmellRace race = Check.race("row oom; row ooo; boat a 0 0 0 0; boat b 1 1 0 0; steers = if hour < 1 then 4 else if hour < 2 then 2 else 0;");
        Check.same("b is there behind 1 hour, gone behind 2", race.hidden(0), 3);
    }

    // "by its own CELL, its STRONG, the WIND": of that hour
    static void p20TheWindOfThatHour() {
        String text = "row ooom; row oooo; boat a 0 0 9 0; boat b 1 1 0 0; steers = 0; wind = if hour < 1 then ";
        Check.same("south now, then east", Check.race(text + "1 else 0;").hidden(0), 3);
        Check.same("south in hour 1", Check.race(text + "0 else if hour < 2 then 1 else 0;").hidden(0), 4);
    }

    static void p20ItsStrengthReachesJustSoFar() {
        String text = "row oooooom; row ooooooo; boat b 5 0 0 0; steers = if hour < 3 then 0 else 2; boat a 0 0 ";
        Check.same("strong 1: b is gone as a comes near", Check.race(text + "1 0;").hidden(1), 6);
        Check.same("strong 2: a must not be in cell 3 behind 3 hours", Check.race(text + "2 0;").hidden(1), 7);
        Check.same("strong 3 reaches b from each cell", Check.race("row oooom; boat b 3 0 0 0; boat a 0 0 3 0; steers = if hour < 5 then 0 else 1;").hidden(1), -2);
        Check.same("strong 2 waits", Check.race("row oooom; boat b 3 0 0 0; boat a 0 0 2 0; steers = if hour < 5 then 0 else 1;").hidden(1), 9);
    }

    static void p20ARockKeepsItsSmellOff() {
        Check.same("a rock between", Check.race("row mooro; boat a 2 0 9 0; boat b 4 0 0 0; steers = 0;").hidden(0), 2);
        Check.same("none between", Check.race("row moooo; boat a 2 0 9 0; boat b 4 0 0 0; steers = 0;").hidden(0), -2);
    }

    // "in a CELL in which it would lay its DISH": no other cell, whichever corner it is
    static void p20OutOfTheWindNobodySmellsIt() {
        Check.same("b in the first cell", Check.race("row ooom; boat a 1 0 9 0; boat b 0 0 0 0; steers = 0;").hidden(0), 2);
        Check.same("b in the last cell", Check.race("row mooo; boat a 2 0 9 0; boat b 3 0 0 0; steers = 0; wind = 2;").hidden(0), 2);
        Check.same("b in the wind", Check.race("row mooo; boat a 2 0 9 0; boat b 3 0 0 0; steers = 0; wind = 0;").hidden(0), -2);
        String bay = "row ooomoooo;" + "row oooooooo;".repeat(4);
        Check.same("four corners", Check.race(bay + "boat a 3 2 9 0; boat b 0 0 0 0; boat c 7 0 0 0; boat d 0 4 0 0; boat e 7 4 0 0; steers = 0;").hidden(0), 2);
    }

    // "no other BOAT, neither LOST nor HOME"
    static void p20HomeAndLostOnesCountNot() {
        SmellRace race = Check.race("row oomm; row rooo; boat a 0 0 9 0; boat b 1 1 0 0; boat c 1 1 0 0; steers = 0;");
        race.go(1, 3);
        race.go(2, 1);
        race.go(2, 4);
        Check.same("lost, home", race.count(5) + 8 * race.count(4), 2 + 8 * 4);
        Check.same("nobody is left", race.hidden(0), 2);
    }

    // "all others as they go if its pan were out and it were nowhere"
    static void p20TheOthersGoAsIfItWereNowhere() {
        SmellRace race = Check.race("row ooom; row orrr; boat a 0 0 1 0; boat b 1 0 0 9; lies = 0; steers = 1 - smells;");
        Check.same("b smells a now, and not in hour 1", race.hidden(0), 5);
        race.pan(0, false);
        Check.same("with its pan out all the same", race.hidden(0), 5);
        Edge.refused("nothing happens", race, 5, () -> race.hidden(0));
    }

    // ---- 21: inPlace ----

    // "-2: not, LOST, HOME; NONE: no such ones."; "IN PLACE p (1 .. 6)"
    static void p21NoSuchOnes() {
        SmellRace race = four();
        for (int k : Edge.outside(0, 3)) {
            Edge.refused("boat " + k, race, -1, () -> race.inPlace(k, 1));
        }
        for (int p : Edge.outside(1, 6)) {
            for (int k = 0; k < 4; k++) {
                Check.same("inPlace(" + k + ", " + p + ")", race.inPlace(k, p), -1);
            }
        }
    }

    static void p21HomeLostAndNoWay() {
        SmellRace race = four();
        Check.same("a, behind b", race.inPlace(0, 2), 3);
        for (int p = 1; p <= 6; p++) {
            for (int k = 1; k < 4; k++) {
                Check.same("inPlace(" + k + ", " + p + ")", race.inPlace(k, p), -2);
            }
        }
    }

    static void p21FromTheFirstToTheSixthPlace() {
        StringBuilder text = new StringBuilder("row oooooom;");
        for (int k = 0; k < 6; k++) {
            text.append("boat ").append((char) ('a' + k)).append(" ").append(5 - k).append(" 0 0 0;");
        }
        // a, b, .. come home in hours 1, 2, ..; f could come in 6 at the soonest
        SmellRace race = Check.race(text.toString());
        int[] ofA = {1, 3, 4, 5, 6, 7};
        int[] ofF = {-2, -2, -2, -2, -2, 6};
        for (int p = 1; p <= 6; p++) {
            Check.same("a in place " + p, race.inPlace(0, p), ofA[p - 1]);
            Check.same("f in place " + p, race.inPlace(5, p), ofF[p - 1]);
        }
    }

    static void p21MorePlacesThanBoats() {
        SmellRace race = Check.race("row om; boat a 0 0 0 0;");
        Check.same("the first", race.inPlace(0, 1), 1);
        for (int p = 2; p <= 6; p++) {
            Check.same("place " + p, race.inPlace(0, p), -2);
        }
    }

    // "no fewer than SOONEST"
    static void p21NoFewerThanSoonest() {
        SmellRace race = Check.race("row oooooom; row oooooom; boat a 3 0 0 0; boat b 5 1 0 0; boat c 1 1 0 0;");
        Check.same("first, but b is home in 1", race.inPlace(0, 1), -2);
        Check.same("second", race.inPlace(0, 2), 3);
        Check.same("third", race.inPlace(0, 3), 6);
    }

    // "(those who come in that hour with lesser numbers, too, and those who are HOME now)"
    static void p21LesserNumbersOfThatHour() {
        String text = "row oom; row oom; boat a 1 0 0 0; boat b 1 1 0 0; steers = if hour < 4 then 0 else 1;";
        Check.same("a comes in 5, b is second with it", Check.race(text).inPlace(1, 2), 5);
        Check.same("b comes in 5, a is second behind it", Check.race(text).inPlace(0, 2), 6);
        Check.same("a is first", Check.race(text).inPlace(0, 1), 1);
        Check.same("b is first", Check.race(text).inPlace(1, 1), 1);
    }

    static void p21ThoseWhoAreHomeNow() {
        SmellRace race = Check.race("row oom; boat a 1 0 0 0; boat b 2 0 0 0; boat c 2 0 0 0; steers = 0;");
        Check.same("first", race.inPlace(0, 1), -2);
        Check.same("second", race.inPlace(0, 2), -2);
        Check.same("third", race.inPlace(0, 3), 1);
        Check.same("fourth", race.inPlace(0, 4), -2);
    }

    // "IN PLACE (40 HOURS at most)"
    static void p21FortyHoursAndOneMore() {
        String text = "row oom; row oom; boat a 1 0 0 0; boat b 1 1 0 0; steers = if hour < ";
        Check.same("b in 40, with a", Check.race(text + "39 then 0 else 1;").inPlace(1, 2), 40);
        Check.same("b in 41", Check.race(text + "40 then 0 else 1;").inPlace(1, 2), -2);
        Check.same("a in 40, b in 39", Check.race(text + "38 then 0 else 1;").inPlace(0, 2), 40);
        Check.same("a in 41, b in 40", Check.race(text + "39 then 0 else 1;").inPlace(0, 2), -2);
    }

    // "as they go likewise"
    static void p21TheOthersGoAsIfItWereNowhere() {
        SmellRace race = Check.race("row ooom; row orrr; boat a 0 0 1 0; boat b 1 0 0 9; lies = 0; steers = 1 - smells;");
        Check.same("b stays one hour, is home behind 3: a is first", race.inPlace(0, 1), 3);
        Check.same("a is second", race.inPlace(0, 2), 4);
    }

    // ---- 26: cover ----

    // "NONE for others."
    static void p26NoSuchWhat() {
        SmellRace race = four();
        for (int what : Edge.outside(0, 2)) {
            Edge.refused("cover(" + what + ")", race, -1, () -> race.cover(what));
        }
    }

    private static void covers(SmellRace race, int many, int which, int cells) {
        Check.same("how many", race.cover(0), many);
        Check.same("which", race.cover(1), which);
        Check.same("in how many cells", race.cover(2), cells);
    }

    static void p26NoBoats() {
        covers(Check.race("row oo;"), 0, 0, 0);
    }

    // "neither LOST nor HOME, pans on as they are"
    static void p26NobodyIsLeft() {
        SmellRace race = Check.race("row mor; boat a 1 0 1 0; boat b 1 0 1 0; boat c 1 0 1 0; steers = 0; lies = 9;");
        covers(race, 1, 1, 1);
        race.go(0, 3);
        covers(race, 1, 2, 1);
        race.go(1, 1);
        covers(race, 1, 4, 1);
        race.pan(2, false);
        covers(race, 0, 0, 0);
        race.pan(2, true);
        covers(race, 1, 4, 1);
    }

    static void p26AllSixAreNeeded() {
        StringBuilder text = new StringBuilder("row oooooo;");
        for (int k = 0; k < 6; k++) {
            text.append("boat ").append((char) ('a' + k)).append(" ").append(k).append(" 0 0 0;");
        }
        covers(Check.race(text.toString()), 6, 63, 6);
    }

    static void p26OneOfSixDoes() {
        StringBuilder text = new StringBuilder("row oooooo;");
        for (int k = 0; k < 6; k++) {
            text.append("boat ").append((char) ('a' + k)).append(" ").append(5 - k).append(" 0 9 0;");
        }
        covers(Check.race(text.toString()), 1, 32, 6);
    }

    // "of alike ones the least bits"
    static void p26OfAlikeOnesTheLeastBits() {
        covers(Check.race("row oooo; boat a 1 0 2 0; boat b 0 0 1 0; boat c 0 0 0 0; boat d 0 0 0 0;"), 2, 3, 4);
        covers(Check.race("row oooo; boat a 2 0 1 0; boat b 2 0 1 0; boat c 0 0 1 0; boat d 0 0 1 0;"), 2, 5, 4);
        covers(Check.race("row oooo; boat a 3 0 0 0; boat b 0 0 2 0; boat c 0 0 3 0;"), 1, 4, 4);
    }

    // "CELLS of water"
    static void p26WaterAlone() {
        covers(Check.race("row omo; boat a 0 0 1 0; steers = 0;"), 1, 1, 1);
        SmellRace race = Check.race("row oom; boat a 1 0 1 0; boat b 0 0 1 0; steers = 0; lies = 0;");
        covers(race, 1, 2, 2);
    }

    // "SMELT now"
    static void p26PansOnWithoutASmell() {
        SmellRace race = Check.race("row oo; boat a 0 0 1 0; steers = 0; lies = 0;");
        race.pan(0, false);
        race.hours(1);
        race.pan(0, true);
        covers(race, 0, 0, 0);
        race.hours(1);
        covers(race, 1, 1, 2);
    }

    static void p26WhatStillLiesCounts() {
        SmellRace race = Check.race("row oooo; boat a 0 0 0 0; boat b 3 0 0 0; lies = 9;");
        race.hours(2);
        covers(race, 2, 3, 4);
        race.hours(1);
        covers(race, 1, 1, 4);
    }

    // ---- 27: out ----

    // "OUT for n HOURS (1 .. 24)"; "NONE: no such ones, not so many."
    static void p27NoSuchOnes() {
        SmellRace race = four();
        for (int n : Edge.outside(1, 24)) {
            Edge.refused("out(" + n + ", NONE)", race, -1, () -> race.out(n, -1));
            Edge.refused("out(" + n + ", 0)", race, -1, () -> race.out(n, 0));
        }
        Edge.refused("i -2", race, -1, () -> race.out(1, -2));
        Edge.refused("i least", race, -1, () -> race.out(1, Integer.MIN_VALUE));
    }

    private static void rests(SmellRace race, int n, int... due) {
        Check.same("rests in " + n, race.out(n, -1), due.length);
        for (int i = 0; i < due.length; i++) {
            Check.same("out(" + n + ", " + i + ")", race.out(n, i), due[i]);
        }
        Check.same("not so many", race.out(n, due.length), -1);
        Check.same("far from so many", race.out(n, Integer.MAX_VALUE), -1);
    }

    static void p27NotSoMany() {
        rests(Check.race("row oo; boat a 0 0 0 0; boat b 1 0 0 0;"), 1, 0, 1, 2, 3);
    }

    static void p27NoPans() {
        SmellRace race = Check.race("row oo; boat a 0 0 0 0; boat b 1 0 0 0;");
        race.pan(0, false);
        rests(race, 24, 0, 2);
        race.pan(1, false);
        rests(race, 24, 0);
        rests(Check.race("row oo;"), 24, 0);
    }

    static void p27AllSetsOfSix() {
        StringBuilder text = new StringBuilder("row oooooo;");
        for (int k = 0; k < 6; k++) {
            text.append("boat ").append((char) ('a' + k)).append(" ").append(k).append(" 0 0 0;");
        }
        SmellRace race = Check.race(text.toString());
        Check.same("all rest", race.out(24, -1), 64);
        Check.same("the first", race.out(24, 0), 0);
        Check.same("the last", race.out(24, 63), 63);
        Check.same("no more", race.out(24, 64), -1);
    }

    // a's pan brings b home in hour 2, which a sees in hour 3: then a goes where its law tells.
    private static String byPlaced(String a, String b) {
        return " lies = 0; steers = if which < 1 then " + a + " * placed else if hour < 1 then 0 else " + b + " * smells;";
    }

    // "(HOME: beyond all"
    static void p27HomeIsBeyondAll() {
        SmellRace west = Check.race("row moom; boat a 1 0 1 0; boat b 2 0 0 9;" + byPlaced("3", "1"));
        rests(west, 2, 0, 1, 2, 3);
        rests(west, 3, 0, 2);
        SmellRace east = Check.race("row ooooomoo; row ooooooom; boat a 7 0 1 0; boat b 6 0 0 9; wind = 2;" + byPlaced("2", "3"));
        rests(east, 2, 0, 1, 2, 3);
        rests(east, 3, 0, 2);
    }

    // "LOST: -1)"
    static void p27LostIsBehindTheFirstCell() {
        SmellRace race = Check.race("row oom; row roo; boat a 0 0 1 0; boat b 1 0 0 9;" + byPlaced("2", "1"));
        rests(race, 2, 0, 1, 2, 3);
        rests(race, 3, 1, 3);
    }

    // "was further to the east": as far is not further
    static void p27AsFarIsNotFurther() {
        SmellRace race = Check.race("row oom; row ooo; boat a 0 0 1 0; boat b 1 0 0 9;" + byPlaced("2", "1"));
        rests(race, 3, 0, 1, 2, 3);
    }

    static void p27OneHourAndTwentyFour() {
        // in hour 23 a goes east if b is home
        String late = " lies = 0; steers = if which < 1 then placed * (hour / 23) else if hour < 1 then 0 else smells;";
        SmellRace race = Check.race("row oom; row ooo; boat a 0 0 1 0; boat b 1 0 0 9;" + late);
        rests(race, 1, 0, 1, 2, 3);
        rests(race, 23, 0, 1, 2, 3);
        rests(race, 24, 0, 2);
    }

    // "sets of BOATS with pans on now"
    static void p27APanThatIsOutIsOfNoSet() {
        SmellRace race = Check.race("row moom; boat a 1 0 1 0; boat b 2 0 0 9;" + byPlaced("3", "1"));
        race.pan(0, false);
        rests(race, 3, 0, 2);
        race.pan(0, true);
        race.pan(1, false);
        rests(race, 3, 0);
    }
}

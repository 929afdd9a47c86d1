/** Promises 30 to 34: tell, forget, fried, sure, rock. */
final class EdgesOfKnowing {
    private static final String THREE = "row ooo; boat a 0 0 2 9; boat b 1 0 1 9; boat c 2 0 0 9; steers = 0;";

    private EdgesOfKnowing() {
    }

    // ---- 30: tell ----

    // "It is TOLD: its number; NONE, and nothing happens: 20 are there, no such ones."
    static void p30NumberedFrom0OnTo19() {
        SmellRace race = Check.race(THREE);
        for (int i = 0; i < 20; i++) {
            Check.same("number", race.tell(2, i % 2), i);
            Check.same("how many", race.count(10), i + 1);
        }
    }

    static void p30TwentyAreThere() {
        SmellRace race = Check.race(THREE);
        for (int i = 0; i < 20; i++) {
            race.tell(2, 0);
        }
        Edge.refused("a 21st", race, -1, () -> race.tell(1, 1));
        Check.same("by 20", race.fried(20), 4);
        Check.same("not by 21", race.fried(21), -1);
        race.forget();
        Check.same("from 0 on again", race.tell(1, 1), 0);
    }

    static void p30NoSuchOnes() {
        SmellRace race = Check.race(THREE);
        for (int k : Edge.outside(0, 2)) {
            Edge.refused("boat " + k, race, -1, () -> race.tell(k, 0));
            Edge.refused("pan " + k, race, -1, () -> race.tell(0, k));
        }
    }

    // "by what it SMELLS as it is told": none, if it smells none
    static void p30OfOneThatSmellsNone() {
        SmellRace race = Check.race("row mor; boat a 1 0 1 9; boat b 1 0 1 9; boat c 1 0 1 9; steers = 0; wind = 2; lies = 9;");
        race.go(1, 3);
        race.go(2, 1);
        Check.same("of one at home", race.tell(1, 0), 0);
        Check.same("no way", race.fried(1), 0);
        race.forget();
        Check.same("of a lost one", race.tell(2, 0), 0);
        Check.same("no way", race.fried(1), 0);
        race.forget();
        SmellRace cold = Check.race(THREE + "cold 100;");
        Check.same("of one with a cold", cold.tell(2, 0), 0);
        Check.same("no way", cold.fried(1), 0);
    }

    static void p30WhatIsToldStaysAsTheHoursGoBy() {
        SmellRace race = Check.race(THREE + "lies = 0;");
        race.tell(1, 0);
        Check.same("pan 0 is a's", race.sure(1, 0), 0);
        race.pan(0, false);
        race.hours(9);
        Check.same("b smells none now", race.boat(1, 5), 0);
        Check.same("still", race.sure(1, 0), 0);
        race.undo();
        Check.same("undo undoes it not", race.count(10), 1);
    }

    static void p30SixPans() {
        StringBuilder text = new StringBuilder("row o; steers = 0;");
        for (int k = 0; k < 6; k++) {
            text.append("boat ").append((char) ('a' + k)).append(" 0 0 0 0;");
        }
        SmellRace race = Check.race(text.toString());
        Check.same("pan 5", race.tell(0, 5), 0);
        Check.same("pan 6", race.tell(0, 6), -1);
        Check.same("boat 6", race.tell(6, 0), -1);
        Check.same("pan 5 is not a's", race.fried(1), 600);
    }

    // ---- 31: forget ----

    static void p31NothingAndTwenty() {
        SmellRace race = Check.race(THREE);
        Check.same("nothing was told", race.forget(), 0);
        race.tell(2, 0);
        Check.same("one", race.forget(), 1);
        Check.same("none is left", race.forget(), 0);
        for (int i = 0; i < 21; i++) {
            race.tell(2, 0);
        }
        Check.same("twenty", race.forget(), 20);
        Check.same("none is left", race.count(10), 0);
        Check.same("nothing is known", race.fried(0), 6);
        Check.same("not by one", race.fried(1), -1);
    }

    static void p31IsNothingDone() {
        SmellRace race = Check.race(THREE);
        race.tell(2, 0);
        race.forget();
        Check.fails("undo", race.undo());
        Check.same("it is not told again", race.count(10), 0);
    }

    // ---- 32: fried ----

    // "FRIED, as KNOWN by k; NONE: no such k."
    static void p32NoSuchNumber() {
        SmellRace race = Check.race(THREE);
        for (int told = 0; told <= 2; told++) {
            for (int k : Edge.outside(0, told)) {
                Edge.refused("fried(" + k + ") of " + told, race, -1, () -> race.fried(k));
            }
            race.tell(2, told);
        }
    }

    static void p32ByNothingAndByAll() {
        SmellRace race = Check.race(THREE);
        race.tell(2, 0);
        race.tell(1, 0);
        race.tell(0, 0);
        int[] due = {6, 4, 2, 0};
        for (int k = 0; k <= 3; k++) {
            Check.same("fried(" + k + ")", race.fried(k), due[k]);
        }
    }

    // "PANS 0, 1 .. (as many as BOATS) are of one BOAT each"
    static void p32FromNoBoatToSix() {
        int due = 1;
        StringBuilder text = new StringBuilder("row o;");
        for (int boats = 0; boats <= 6; boats++) {
            due *= Math.max(1, boats);
            Check.same(boats + " boats", Check.race(text.toString()).fried(0), due);
            text.append("boat ").append((char) ('a' + boats)).append(" 0 0 0 0;");
        }
    }

    static void p32TwoPansOfOneBoatAreNone() {
        SmellRace race = Check.race(THREE);
        race.tell(1, 0);
        race.tell(1, 1);
        Check.same("b smelled a alone", race.fried(2), 0);
    }

    static void p32AllOfAFullTelling() {
        StringBuilder text = new StringBuilder("row oooooo; steers = 0;");
        for (int k = 0; k < 6; k++) {
            text.append("boat ").append((char) ('a' + k)).append(" ").append(k).append(" 0 9 9;");
        }
        // boat k smells dishes 0 .. k - 1
        SmellRace race = Check.race(text.toString());
        for (int i = 0; i < 20; i++) {
            race.tell(1 + i % 5, i % 5);
        }
        Check.same("pan i is of 0 .. i, for i up to 4: one way", race.fried(20), 1);
        Check.same("by the first four, two", race.fried(4), 2);
        for (int pan = 0; pan < 6; pan++) {
            Check.same("pan " + pan, race.sure(20, pan), pan);
        }
    }

    // ---- 33: sure ----

    // "NONE: no such ones (a PAN that there is)."
    static void p33NoSuchOnes() {
        SmellRace race = Check.race(THREE);
        race.tell(2, 0);
        for (int k : Edge.outside(0, 1)) {
            Edge.refused("k " + k, race, -1, () -> race.sure(k, 0));
        }
        for (int pan : Edge.outside(0, 2)) {
            Edge.refused("pan " + pan, race, -1, () -> race.sure(0, pan));
        }
    }

    // "-2: this or that one, no way is left"
    static void p33ThisOrThatOne() {
        SmellRace race = Check.race(THREE);
        race.tell(2, 0);
        for (int pan = 0; pan < 3; pan++) {
            Check.same("pan " + pan, race.sure(1, pan), -2);
        }
    }

    static void p33NoWayIsLeft() {
        SmellRace race = Check.race(THREE);
        race.tell(0, 0);
        for (int pan = 0; pan < 3; pan++) {
            Check.same("pan " + pan, race.sure(1, pan), -2);
        }
    }

    static void p33WhatTheOthersLeave() {
        SmellRace race = Check.race(THREE);
        race.tell(2, 0);
        race.tell(2, 1);
        Check.same("by one", race.sure(1, 2), -2);
        Check.same("by two, pan 2 is c's", race.sure(2, 2), 2);
        Check.same("pan 0 is a's or b's", race.sure(2, 0), -2);
    }

    static void p33OneBoat() {
        SmellRace race = Check.race("row o; boat a 0 0 0 0;");
        Check.same("its pan", race.sure(0, 0), 0);
        race.tell(0, 0);
        Check.same("it smelled none", race.sure(1, 0), -2);
        Check.same("by nothing", race.sure(0, 0), 0);
    }

    // ---- 34: rock ----

    // "NONE: no such ones (a set of BOATS, none too), not so many."
    static void p34NoSuchOnes() {
        SmellRace race = Check.race("row oooom; row ooooo; boat a 0 0 0 0; boat b 4 1 0 0;");
        for (int n : Edge.outside(1, 60)) {
            Edge.refused("n " + n, race, -1, () -> race.rock(n, 1, -1));
            Edge.refused("n " + n + ", the first", race, -1, () -> race.rock(n, 1, 0));
        }
        for (int set : Edge.outside(0, 3)) {
            Edge.refused("set " + set, race, -1, () -> race.rock(4, set, -1));
        }
        Edge.refused("i -2", race, -1, () -> race.rock(4, 1, -2));
        Edge.refused("i least", race, -1, () -> race.rock(4, 1, Integer.MIN_VALUE));
    }

    static void p34NotSoMany() {
        SmellRace race = Check.race("row oooom; row ooooo; boat a 0 0 0 0; boat b 4 1 0 0;");
        Check.same("how many", race.rock(4, 1, -1), 3);
        Check.same("the last", race.rock(4, 1, 2), 3);
        Check.same("one more", race.rock(4, 1, 3), -1);
        Check.same("far more", race.rock(4, 1, Integer.MAX_VALUE), -1);
        Check.same("no cell loses b", race.rock(4, 2, -1), 0);
        Check.same("not one", race.rock(4, 2, 0), -1);
    }

    static void p34NobodyIsASet() {
        SmellRace race = Check.race("row oo; row oo; boat a 0 0 0 0;");
        Check.same("none lost", race.rock(1, 0, -1), 2);
        Check.same("the first", race.rock(1, 0, 0), 8);
        Check.same("the last", race.rock(1, 0, 1), 9);
        SmellRace empty = Check.race("row oro; row oom;");
        Check.same("of no boats, each cell of water", empty.rock(60, 0, -1), 4);
        Check.same("set 1 of no boats", empty.rock(60, 1, -1), -1);
    }

    static void p34TheSetOfAllSix() {
        StringBuilder text = new StringBuilder("row ooo;");
        for (int k = 0; k < 6; k++) {
            text.append("boat ").append((char) ('a' + k)).append(" 0 0 0 0;");
        }
        SmellRace race = Check.race(text.toString());
        Check.same("all are lost on 1 or 2", race.rock(2, 63, -1), 2);
        Check.same("set 64", race.rock(2, 64, -1), -1);
        Check.same("just those of the set", race.rock(2, 31, -1), 0);
    }

    // "LOST behind n HOURS (1 .. 60)"
    static void p34OneHourAndSixty() {
        String text = "row oo; boat a 0 0 0 0; steers = if hour < ";
        SmellRace first = Check.race(text + "0 then 0 else 1;");
        Check.same("behind 1", first.rock(1, 1, -1), 1);
        SmellRace last = Check.race(text + "59 then 0 else 1;");
        Check.same("not behind 59", last.rock(59, 1, -1), 0);
        Check.same("behind 60", last.rock(60, 1, -1), 1);
        Check.same("behind 61, too late", Check.race(text + "60 then 0 else 1;").rock(60, 1, -1), 0);
    }

    // "(8 to the ROW: 8 * Y + X)"
    static void p34EightToTheRow() {
        SmellRace small = Check.race("row r; row o; row r; row r; row o;");
        Check.same("8", small.rock(1, 0, 0), 8);
        Check.same("32", small.rock(1, 0, 1), 32);
        Check.same("two", small.rock(1, 0, -1), 2);
        SmellRace full = Check.race("row oooooooo;".repeat(5));
        Check.same("forty", full.rock(1, 0, -1), 40);
        for (int i = 0; i < 40; i++) {
            Check.same("the " + i + "-th", full.rock(1, 0, i), i);
        }
        Check.same("no more", full.rock(1, 0, 40), -1);
    }

    // "CELLS of water .. in which no BOAT is as the text tells"
    static void p34NeitherUnderABoatNorOnAMark() {
        SmellRace race = Check.race("row omro; boat a 0 0 0 0; boat b 1 0 0 0; steers = 0;");
        Check.same("one", race.rock(1, 0, -1), 1);
        Check.same("where", race.rock(1, 0, 0), 3);
        Check.same("no cell", Check.race("row om; boat a 0 0 0 0; steers = 0;").rock(1, 0, -1), 0);
    }

    // "from the text on, nothing by hand"
    static void p34FromTheTextOn() {
        SmellRace race = Check.race("row ooo; boat a 0 0 0 0;");
        race.go(0, 1);
        race.go(0, 1);
        race.hours(50);
        race.pan(0, false);
        Check.same("its own cell by the text is none", race.rock(2, 1, -1), 2);
        Check.same("the first", race.rock(2, 1, 0), 1);
        Edge.refused("nothing happens", race, 2, () -> race.rock(2, 1, -1));
    }
}

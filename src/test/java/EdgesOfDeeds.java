/** Promises 11 to 14: hours, go, pan, undo. */
final class EdgesOfDeeds {
    private EdgesOfDeeds() {
    }

    private static SmellRace mixed() {
        SmellRace race = Check.race("row ooom; row ooor; boat a 0 0 1 9; boat b 2 0 1 9; boat c 2 1 1 9; boat d 1 1 1 9; lies = 2; steers = 0;");
        race.go(1, 1);
        race.go(2, 1);
        race.tell(0, 1);
        return race;
    }

    // ---- 11: hours ----

    // "n HOURS (0 .. 100; 0 is no thing done) go by: which it is"
    static void p11NoHours() {
        SmellRace race = mixed();
        Edge.refused("hours(0)", race, 0, () -> race.hours(0));
        race.hours(5);
        Edge.refused("hours(0)", race, 5, () -> race.hours(0));
        Check.same("things done", race.count(9), 3);
    }

    static void p11OneHour() {
        SmellRace race = mixed();
        Check.same("hours(1)", race.hours(1), 1);
        Check.same("a thing done", race.count(9), 3);
    }

    static void p11AHundredHours() {
        SmellRace race = mixed();
        Check.same("hours(100)", race.hours(100), 100);
        Check.same("one thing done", race.count(9), 3);
        Check.same("and a hundred more", race.hours(100), 200);
    }

    // "NONE, and nothing happens: no such n."
    static void p11NoSuchNumber() {
        SmellRace race = mixed();
        for (int n : Edge.outside(0, 100)) {
            Edge.refused("hours(" + n + ")", race, -1, () -> race.hours(n));
        }
    }

    static void p11ManyHoursAreOneByOne() {
        String text = "row oooooooo; row oooroomo; boat a 0 0 2 3; boat b 1 1 1 2; boat c 4 0 1 4; wind = hour; "
            + "steers = hour + smells + near * which; lies = hour - east; cold 30; seed 12;";
        SmellRace one = Check.race(text);
        SmellRace all = Check.race(text);
        for (int i = 0; i < 30; i++) {
            one.hours(1);
        }
        all.hours(30);
        all.hold(0);
        one.hold(0);
        one.restore(0);
        all.restore(0);
        Check.holds("alike", Edge.all(one).equals(Edge.all(all)));
    }

    // "each BOAT .. STEERS by how all is as the hour begins; then they go, BOAT by BOAT"
    static void p11AllSteerAsTheHourBegins() {
        SmellRace race = Check.race("row oom; boat a 1 0 0 0; boat b 0 0 0 0; steers = if 0 < placed then 0 else 1;");
        race.hours(1);
        Check.same("a is home", race.boat(0, 2), 1);
        Check.same("b did not see it yet", race.boat(1, 0), 1);
        race.hours(1);
        Check.same("b sees it now", race.boat(1, 0), 1);
    }

    static void p11BoatsPassThroughEachOther() {
        SmellRace race = Check.race("row ooo; boat a 0 0 0 0; boat b 1 0 0 0; boat c 1 0 0 0; steers = if which < 1 then 1 else 3;");
        race.hours(1);
        Check.same("a", race.boat(0, 0), 1);
        Check.same("b", race.boat(1, 0), 0);
        Check.same("c", race.boat(2, 0), 0);
    }

    // "beyond the BAY it stays"
    static void p11BeyondTheBayItStays() {
        for (int way = 1; way <= 4; way++) {
            SmellRace race = Check.race("row o; boat a 0 0 0 0; steers = " + way + ";");
            race.hours(3);
            Check.same("x, way " + way, race.boat(0, 0), 0);
            Check.same("y, way " + way, race.boat(0, 1), 0);
            Check.same("not lost", race.boat(0, 3), 0);
        }
        SmellRace full = Check.race("row oooooooo;".repeat(5) + "boat a 7 4 0 0; boat b 7 0 0 0; boat c 0 4 0 0; boat d 0 0 0 0; steers = hour + 1;");
        full.hours(1);
        Check.same("a", 8 * full.boat(0, 1) + full.boat(0, 0), 39);
        Check.same("b", 8 * full.boat(1, 1) + full.boat(1, 0), 7);
        full.hours(1);
        Check.same("a", 8 * full.boat(0, 1) + full.boat(0, 0), 39);
        Check.same("c", 8 * full.boat(2, 1) + full.boat(2, 0), 33);
    }

    static void p11EachWayOfAnHour() {
        int[][] due = {{1, 1}, {2, 1}, {1, 2}, {0, 1}, {1, 0}};
        for (int way = 0; way <= 4; way++) {
            SmellRace race = Check.race("row ooo; row ooo; row ooo; boat a 1 1 0 0; steers = " + way + ";");
            race.hours(1);
            Check.same("x, way " + way, race.boat(0, 0), due[way][0]);
            Check.same("y, way " + way, race.boat(0, 1), due[way][1]);
        }
    }

    // "on a rock it is LOST; on the mark it is HOME, in the next PLACE"
    static void p11WhoIsHomeOrLostGoesNoFurther() {
        SmellRace race = Check.race("row omo; row oro; boat a 0 0 1 0; boat b 0 1 1 0;");
        race.hours(1);
        race.hours(5);
        Check.same("a stays on the mark", race.boat(0, 0), 1);
        Check.same("a's place", race.boat(0, 2), 1);
        Check.same("b stays lost", race.boat(1, 3), 1);
        Check.same("a laid nothing on it", race.laid(2, 0, 0, false), -2);
        Check.same("b laid nothing behind it", race.laid(2, 1, 1, false), -2);
    }

    // ---- 12: go ----

    // "GOES a WAY (1 .. 4): 0 it is in another CELL, 1 HOME, 2 LOST, 3 it stays (a thing done, too)"
    static void p12EachWay() {
        int[][] due = {{1, 1}, {2, 1}, {1, 2}, {0, 1}, {1, 0}};
        for (int way = 1; way <= 4; way++) {
            SmellRace race = Check.race("row ooo; row ooo; row ooo; boat a 1 1 0 0;");
            Check.same("go(0, " + way + ")", race.go(0, way), 0);
            Check.same("x", race.boat(0, 0), due[way][0]);
            Check.same("y", race.boat(0, 1), due[way][1]);
            Check.same("a thing done", race.count(9), 1);
        }
    }

    static void p12BeyondTheBayItStays() {
        for (int way = 1; way <= 4; way++) {
            SmellRace race = Check.race("row o; boat a 0 0 0 0;");
            Check.same("go(0, " + way + ")", race.go(0, way), 3);
            Check.same("x", race.boat(0, 0), 0);
            Check.same("y", race.boat(0, 1), 0);
            Check.same("a thing done, too", race.count(9), 1);
            Check.holds("undo", race.undo());
        }
    }

    static void p12OnTheMarkAndOnARock() {
        for (int way = 1; way <= 4; way++) {
            SmellRace home = Check.race("row rmr; row mom; row rmr; boat a 1 1 0 0;");
            Check.same("home by " + way, home.go(0, way), 1);
            Check.same("its place", home.boat(0, 2), 1);
            SmellRace lost = Check.race("row mrm; row ror; row mrm; boat a 1 1 0 0;");
            Check.same("lost by " + way, lost.go(0, way), 2);
            Check.same("lost", lost.boat(0, 3), 1);
        }
    }

    static void p12TheNextPlace() {
        SmellRace race = Check.race("row om; boat a 0 0 0 0; boat b 1 0 0 0; boat c 0 0 0 0;");
        race.go(2, 1);
        race.go(0, 1);
        Check.same("b", race.boat(1, 2), 1);
        Check.same("c", race.boat(2, 2), 2);
        Check.same("a", race.boat(0, 2), 3);
    }

    // "-2, and nothing happens: LOST, HOME"
    static void p12WhoIsHomeOrLostGoesNot() {
        SmellRace race = mixed();
        for (int way = 1; way <= 4; way++) {
            int by = way;
            Edge.refused("home, way " + way, race, -2, () -> race.go(1, by));
            Edge.refused("lost, way " + way, race, -2, () -> race.go(2, by));
        }
    }

    // "NONE: no such ones."
    static void p12NoSuchWay() {
        SmellRace race = mixed();
        for (int way : Edge.outside(1, 4)) {
            Edge.refused("way " + way, race, -1, () -> race.go(0, way));
            Edge.refused("way " + way + " of one at home", race, -1, () -> race.go(1, way));
        }
    }

    static void p12NoSuchBoat() {
        SmellRace race = mixed();
        for (int k : Edge.outside(0, 3)) {
            Edge.refused("boat " + k, race, -1, () -> race.go(k, 1));
        }
    }

    // "(no hour goes by, nothing is laid)"
    static void p12NoHourGoesByNothingIsLaid() {
        SmellRace race = Check.race("row ooo; boat a 0 0 0 0; wind = hour;");
        race.go(0, 1);
        Check.same("hour", race.count(3), 0);
        Check.same("not laid there", race.laid(1, 0, 0, false), -2);
        Check.same("it lies where it was", race.cell(0, 0, 1), 1);
    }

    // ---- 13: pan ----

    // "A pan is put out (or on): true; false, and nothing happens: it is so, no such one."
    static void p13ItIsSo() {
        SmellRace race = mixed();
        for (int k = 0; k < 4; k++) {
            int which = k;
            Edge.refused("on already", race, 0, () -> Edge.bit(race.pan(which, true)));
            Check.holds("out", race.pan(k, false));
            Edge.refused("out already", race, 0, () -> Edge.bit(race.pan(which, false)));
            Check.holds("on", race.pan(k, true));
        }
        Check.same("things done", race.count(9), 10);
    }

    static void p13NoSuchBoat() {
        SmellRace race = mixed();
        for (int k : Edge.outside(0, 3)) {
            Edge.refused("out, boat " + k, race, 0, () -> Edge.bit(race.pan(k, false)));
            Edge.refused("on, boat " + k, race, 0, () -> Edge.bit(race.pan(k, true)));
        }
        // no pan of a boat that is not there
        Edge.refused("boat 32", race, 0, () -> Edge.bit(race.pan(32, false)));
    }

    static void p13HomeAndLostOnesHavePansToo() {
        SmellRace race = mixed();
        Check.holds("home", race.pan(1, false));
        Check.holds("lost", race.pan(2, false));
        Check.same("pans", race.count(6), 9);
    }

    // "(what lies stays)"
    static void p13WhatLiesStays() {
        SmellRace race = Check.race("row oo; boat a 0 0 1 0; steers = 0;");
        race.pan(0, false);
        Check.same("it is smelt", race.cell(1, 0, 1), 1);
        Check.same("till", race.laid(1, 0, 0, true), 1);
        race.pan(0, true);
        Check.same("nothing new is laid", race.laid(1, 0, 0, false), 0);
    }

    // ---- 14: undo ----

    // "true; false: there is none (the last 30 can be)"
    static void p14ThereIsNone() {
        SmellRace race = Check.race("row oom; boat a 0 0 0 0;");
        Edge.refused("undo", race, 0, () -> Edge.bit(race.undo()));
        race.go(0, 1);
        Check.holds("undo", race.undo());
        Edge.refused("undo", race, 0, () -> Edge.bit(race.undo()));
    }

    static void p14RefusedCallsAreNothingDone() {
        SmellRace race = mixed();
        race.undo();
        race.undo();
        race.hours(0);
        race.hours(101);
        race.go(0, 5);
        race.pan(0, true);
        race.tell(0, 0);
        race.hold(0);
        race.feed(0, 0, 0, 0, 0);
        Edge.refused("undo", race, 0, () -> Edge.bit(race.undo()));
    }

    static void p14EachSortOfThing() {
        SmellRace race = Check.race("row ooom; row ooor; boat a 2 0 1 9; boat b 2 1 1 9; boat c 0 0 1 9; lies = 3;");
        String first = Edge.all(race);
        race.hours(1);
        String second = Edge.all(race);
        race.pan(2, false);
        String third = Edge.all(race);
        race.go(2, 2);
        Check.holds("undo go", race.undo());
        Check.holds("all is as it was", Edge.all(race).equals(third));
        Check.holds("undo pan", race.undo());
        Check.holds("all is as it was", Edge.all(race).equals(second));
        Check.holds("undo hours", race.undo());
        Check.holds("all is as it was", Edge.all(race).equals(first));
    }

    private static SmellRace withThings(int n) {
        SmellRace race = Check.race("row oo; boat a 0 0 1 0;");
        for (int i = 1; i <= n; i++) {
            race.hours(1);
            Check.same("behind " + i + " things", race.count(9), Math.min(30, i));
        }
        return race;
    }

    static void p14ThirtyThings() {
        for (int n : new int[] {29, 30, 31, 59, 60, 61, 75}) {
            SmellRace race = withThings(n);
            int most = Math.min(30, n);
            for (int i = 1; i <= most; i++) {
                Check.holds("undo " + i + " of " + n, race.undo());
                Check.same("hour", race.count(3), n - i);
                Check.same("left", race.count(9), most - i);
            }
            Check.fails("undo behind all", race.undo());
            Check.same("hour", race.count(3), Math.max(0, n - 30));
        }
    }

    static void p14ThingsDoneBehindAnUndo() {
        SmellRace race = withThings(35);
        for (int i = 0; i < 10; i++) {
            race.undo();
        }
        Check.same("hour", race.count(3), 25);
        for (int i = 1; i <= 15; i++) {
            race.hours(2);
            Check.same("left", race.count(9), Math.min(30, 20 + i));
        }
        Check.same("hour", race.count(3), 55);
        for (int i = 1; i <= 15; i++) {
            race.undo();
            Check.same("hour", race.count(3), 55 - 2 * i);
        }
        for (int i = 1; i <= 15; i++) {
            race.undo();
            Check.same("hour", race.count(3), 25 - i);
        }
        Check.fails("the last 30", race.undo());
    }

    static void p14AnUndoIsNotUndone() {
        SmellRace race = withThings(2);
        race.undo();
        race.undo();
        Check.fails("undo", race.undo());
        Check.same("hour", race.count(3), 0);
    }
}

/** Promises 15 to 17, 22 to 25, 28 and 29: then, many, ranked, smelt, bare, met, leader, odds, lost. */
final class EdgesAhead {
    private EdgesAhead() {
    }

    private static SmellRace three() {
        SmellRace race = Check.race("row ooom; row ooor; boat a 0 0 1 9; boat b 2 0 1 9; boat c 2 1 1 9; boat d 0 1 0 9; "
            + "steers = if which < 3 then 1 else 0;");
        race.hours(1);
        return race;
    }

    // ---- 15: then ----

    // "In n HOURS (0 .. 100)"; "NONE: no such ones."
    static void p15NoSuchOnes() {
        SmellRace race = three();
        for (int k : Edge.outside(0, 3)) {
            Edge.refused("boat " + k, race, -1, () -> race.then(k, 1, 0));
        }
        for (int n : Edge.outside(0, 100)) {
            Edge.refused("n " + n, race, -1, () -> race.then(0, n, 0));
        }
        for (int what : Edge.outside(0, 2)) {
            Edge.refused("what " + what, race, -1, () -> race.then(0, 1, what));
        }
    }

    static void p15NowAndInAHundredHours() {
        SmellRace race = Check.race("row oo; row oo; boat a 0 0 0 0; steers = if hour < 99 then 0 else 1;");
        Check.same("now", race.then(0, 0, 0), 0);
        Check.same("in 99", race.then(0, 99, 0), 0);
        Check.same("in 100", race.then(0, 100, 0), 1);
        Check.same("y", race.then(0, 100, 1), 0);
    }

    static void p15LostAndHomeOnes() {
        SmellRace race = three();
        int[] lost = {-2, -2, -2};
        int[] home = {3, 0, 1};
        for (int what = 0; what <= 2; what++) {
            Check.same("lost, " + what, race.then(2, 0, what), lost[what]);
            Check.same("home, " + what, race.then(1, 0, what), home[what]);
            Check.same("lost in 9, " + what, race.then(2, 9, what), lost[what]);
            Check.same("home in 9, " + what, race.then(1, 9, what), home[what]);
        }
        Check.same("a's place now", race.then(0, 1, 2), -2);
        Check.same("a's place in 2", race.then(0, 2, 2), 2);
    }

    // "What would be (nothing happens)."
    static void p15NothingHappens() {
        SmellRace race = three();
        Edge.refused("then", race, 3, () -> race.then(0, 100, 0));
    }

    // ---- 16: many ----

    static void p16NoSuchNumber() {
        SmellRace race = three();
        for (int n : Edge.outside(0, 100)) {
            Edge.refused("many(" + n + ", true)", race, -1, () -> race.many(n, true));
            Edge.refused("many(" + n + ", false)", race, -1, () -> race.many(n, false));
        }
    }

    static void p16NowAndInAHundredHours() {
        SmellRace race = Check.race("row orm; row oom; boat a 0 0 0 0; boat b 1 1 0 0; boat c 2 1 0 0; steers = if hour < 99 then 0 else 1;");
        Check.same("home now", race.many(0, false), 1);
        Check.same("lost now", race.many(0, true), 0);
        Check.same("home in 99", race.many(99, false), 1);
        Check.same("lost in 99", race.many(99, true), 0);
        Check.same("home in 100", race.many(100, false), 2);
        Check.same("lost in 100", race.many(100, true), 1);
    }

    static void p16AllSix() {
        StringBuilder text = new StringBuilder("row om; row or;");
        for (int k = 0; k < 6; k++) {
            text.append("boat ").append((char) ('a' + k)).append(" 0 ").append(k % 2).append(" 0 0;");
        }
        SmellRace race = Check.race(text.toString());
        Check.same("home", race.many(1, false), 3);
        Check.same("lost", race.many(1, true), 3);
    }

    // ---- 17: ranked ----

    // "The BOAT of a RANK; NONE: no such one."
    static void p17NoSuchRank() {
        SmellRace race = three();
        Check.same("the last", race.ranked(3), 2);
        for (int rank : Edge.outside(0, 3)) {
            Check.same("ranked(" + rank + ")", race.ranked(rank), -1);
        }
    }

    static void p17OneBoat() {
        SmellRace race = Check.race("row o; boat a 0 0 0 0;");
        Check.same("the first", race.ranked(0), 0);
        Check.same("no second", race.ranked(1), -1);
    }

    static void p17AllAlike() {
        StringBuilder text = new StringBuilder("row o;");
        for (int k = 0; k < 6; k++) {
            text.append("boat ").append((char) ('a' + k)).append(" 0 0 0 0;");
        }
        SmellRace race = Check.race(text.toString());
        for (int k = 0; k < 6; k++) {
            Check.same("ranked(" + k + ")", race.ranked(k), k);
        }
        Check.same("no seventh", race.ranked(6), -1);
    }

    static void p17AllLostOrAllHome() {
        SmellRace lost = Check.race("row or; boat a 0 0 0 0; boat b 0 0 0 0;");
        lost.go(1, 1);
        lost.go(0, 1);
        Check.same("lost ones by numbers", lost.ranked(0), 0);
        SmellRace home = Check.race("row om; boat a 0 0 0 0; boat b 0 0 0 0;");
        home.go(1, 1);
        home.go(0, 1);
        Check.same("home ones by places", home.ranked(0), 1);
    }

    // ---- 22: smelt ----

    // "FIRST SMELT; -2: not; NONE: no such ones, one and the same."
    static void p22NoSuchOnes() {
        SmellRace race = three();
        for (int k : Edge.outside(0, 3)) {
            Edge.refused("boat " + k, race, -1, () -> race.smelt(k, 0));
            Edge.refused("other " + k, race, -1, () -> race.smelt(0, k));
        }
    }

    static void p22OneAndTheSame() {
        SmellRace race = three();
        for (int k = 0; k < 4; k++) {
            Check.same("smelt(" + k + ", " + k + ")", race.smelt(k, k), -1);
        }
    }

    // "behind how many HOURS (0 .. 100)"
    static void p22NowAndInAHundredHours() {
        String bay = "row oo; boat a 0 0 0 0; boat b 1 0 0 0; steers = if which < 1 then 0 else if hour < ";
        Check.same("in 100", Check.race(bay + "99 then 0 else 3;").smelt(0, 1), 100);
        Check.same("in 101", Check.race(bay + "100 then 0 else 3;").smelt(0, 1), -2);
        Check.same("in 1", Check.race(bay + "0 then 0 else 3;").smelt(0, 1), 1);
        Check.same("now", Check.race("row o; boat a 0 0 0 0; boat b 0 0 0 0; steers = 0;").smelt(0, 1), 0);
    }

    static void p22LostAndHomeOnesSmellNothing() {
        SmellRace race = Check.race("row mor; boat a 1 0 1 9; boat b 1 0 1 9; boat c 1 0 1 9; steers = 0; wind = 2; lies = 9;");
        race.go(1, 3);
        race.go(2, 1);
        Check.same("a's dish is on the mark", race.cell(0, 0, 1) & 1, 1);
        Check.same("home", race.smelt(1, 0), -2);
        Check.same("lost", race.smelt(2, 0), -2);
        Check.same("what they laid is smelt", race.smelt(0, 1), 0);
    }

    static void p22AColdKeepsItFromSmelling() {
        Check.same("cold 100", Check.race("row o; boat a 0 0 0 9; boat b 0 0 0 9; cold 100;").smelt(0, 1), -2);
    }

    // ---- 23: bare ----

    static void p23NoSuchNumber() {
        SmellRace race = three();
        for (int n : Edge.outside(0, 100)) {
            Edge.refused("bare(" + n + ")", race, -1, () -> race.bare(n));
        }
    }

    static void p23NowAndInAHundredHours() {
        SmellRace race = Check.race("row ooo; boat a 0 0 0 0; lies = 0; steers = if hour < 98 then 0 else 1; wind = 2;");
        race.pan(0, false);
        Check.same("now", race.bare(0), 2);
        Check.same("in 1", race.bare(1), 3);
        race.pan(0, true);
        Check.same("in 100", race.bare(100), 2);
        SmellRace strong = Check.race("row ooo; boat a 0 0 2 0; lies = 0; steers = if hour < 98 then 0 else 1;");
        Check.same("in 98", strong.bare(98), 0);
        Check.same("in 99", strong.bare(99), 1);
        Check.same("in 100", strong.bare(100), 2);
    }

    // "CELLS of water"
    static void p23WaterAlone() {
        Check.same("no boats", Check.race("row orm; row moo;").bare(0), 3);
        Check.same("no water", Check.race("row rmr;").bare(0), 0);
        Check.same("a full bay", Check.race("row oooooooo;".repeat(5)).bare(0), 40);
        Check.same("smelt on the mark alone", Check.race("row omo; boat a 0 0 1 0;").bare(0), 1);
    }

    // ---- 24: met ----

    static void p24NoSuchOnes() {
        SmellRace race = three();
        for (int k : Edge.outside(0, 3)) {
            Edge.refused("boat " + k, race, -1, () -> race.met(k, 0, 1));
            Edge.refused("other " + k, race, -1, () -> race.met(0, k, 1));
        }
        for (int n : Edge.outside(1, 100)) {
            Edge.refused("n " + n, race, -1, () -> race.met(0, 3, n));
        }
    }

    static void p24OneAndTheSame() {
        SmellRace race = three();
        for (int k = 0; k < 4; k++) {
            Check.same("met(" + k + ", " + k + ", 5)", race.met(k, k, 5), -1);
        }
    }

    // "MET in n HOURS (1 .. 100): behind how many of them"
    static void p24OneHourAndAHundred() {
        SmellRace race = Check.race("row oo; boat a 0 0 0 0; boat b 0 0 0 0; steers = 0;");
        Check.same("in 1", race.met(0, 1, 1), 1);
        Check.same("in 100", race.met(0, 1, 100), 100);
        Check.same("now counts not", Check.race("row oo; boat a 0 0 0 0; boat b 0 0 0 0; steers = which;").met(0, 1, 100), 0);
        SmellRace late = Check.race("row oo; boat a 0 0 0 0; boat b 1 0 0 0; steers = if hour < 99 then 0 else 1;");
        Check.same("not in 99", late.met(0, 1, 99), 0);
        Check.same("in 100", late.met(0, 1, 100), 1);
    }

    static void p24ChangingPlacesIsNotMeeting() {
        SmellRace race = Check.race("row oo; boat a 0 0 0 0; boat b 1 0 0 0; steers = if which < 1 then 1 else 3;");
        Check.same("they pass", race.met(0, 1, 1), 0);
    }

    // "both neither LOST nor HOME"
    static void p24LostAndHomeOnesMeetNobody() {
        SmellRace race = Check.race("row om; row or; boat a 0 0 0 0; boat b 0 0 0 0; boat c 0 1 0 0; boat d 0 1 0 0;");
        Check.same("home", race.met(0, 1, 100), 0);
        Check.same("lost", race.met(2, 3, 100), 0);
    }

    // ---- 25: leader ----

    // "LEADER; -2: there are no BOATS; NONE: no such n."
    static void p25NoSuchNumber() {
        SmellRace race = three();
        SmellRace empty = Check.race("row oo;");
        for (int n : Edge.outside(0, 100)) {
            Edge.refused("leader(" + n + ")", race, -1, () -> race.leader(n));
            Check.same("leader(" + n + ") of no boats", empty.leader(n), -1);
        }
    }

    static void p25NoBoats() {
        SmellRace race = Check.race("row oo;");
        Check.same("now", race.leader(0), -2);
        Check.same("in 100", race.leader(100), -2);
    }

    static void p25NowAndInAHundredHours() {
        SmellRace race = Check.race("row ooo; boat a 1 0 0 0; boat b 0 0 0 0; steers = if which < 1 then 0 else if hour < 98 then 0 else 1;");
        Check.same("now", race.leader(0), 0);
        Check.same("in 99, alike", race.leader(99), 0);
        Check.same("in 100", race.leader(100), 1);
    }

    static void p25AllLost() {
        SmellRace race = Check.race("row or; boat a 0 0 0 0; boat b 0 0 0 0; steers = which;");
        Check.same("now", race.leader(0), 0);
        race.go(0, 1);
        Check.same("b sails", race.leader(0), 1);
        Check.same("both are lost: the first by numbers", race.leader(1), 0);
    }

    // ---- 28: odds ----

    static void p28NoSuchOnes() {
        SmellRace race = three();
        for (int k : Edge.outside(0, 3)) {
            Edge.refused("boat " + k, race, -1, () -> race.odds(k, 1, 1));
        }
        for (int n : Edge.outside(0, 100)) {
            Edge.refused("n " + n, race, -1, () -> race.odds(0, n, 1));
        }
        for (int s : Edge.outside(1, 20)) {
            Edge.refused("s " + s, race, -1, () -> race.odds(0, 1, s));
        }
    }

    static void p28OneSeedAndTwenty() {
        SmellRace race = Check.race("row om; boat a 0 0 0 0; boat b 1 0 0 0; steers = if hour < 99 then 0 else 1;");
        Check.same("by 1", race.odds(0, 100, 1), 1);
        Check.same("by 20", race.odds(0, 100, 20), 20);
        Check.same("in 99", race.odds(0, 99, 20), 0);
        Check.same("in 0, not home", race.odds(0, 0, 20), 0);
        Check.same("in 0, home", race.odds(1, 0, 20), 20);
    }

    // "from the text's SEED on": beyond 9999, too
    static void p28EachSeedByItself() {
        for (int seed : new int[] {0, 1, 9980, 9990, 9999}) {
            String text = "row ooom; boat a 0 0 0 9; boat b 0 0 3 9; cold 50; steers = if which < 1 then 1 - smells else 0; seed ";
            SmellRace race = Check.race(text + seed + ";");
            int due = 0;
            for (int s = 1; s <= 20; s++) {
                due += comesHome(seed + s - 1, 5) ? 1 : 0;
                Check.same("seed " + seed + ", odds by " + s, race.odds(0, 5, s), due);
            }
            Check.holds("some, not all: " + due, due > 0 && due < 20);
        }
    }

    // a goes east in each hour in which it has a cold: three of the first ones make it home
    private static boolean comesHome(int seed, int n) {
        int colds = 0;
        for (int hour = 0; hour < n; hour++) {
            int h = (seed ^ 69) * 1103515245 + 12345;
            h ^= h >>> 15;
            h = (h ^ 16 * hour) * 1103515245 + 12345;
            h ^= h >>> 15;
            colds += (h >>> 1) % 100 < 50 ? 1 : 0;
        }
        return colds >= 3;
    }

    static void p28FromNowOn() {
        SmellRace race = Check.race("row oom; boat a 0 0 0 0;");
        Check.same("in 1", race.odds(0, 1, 3), 0);
        race.hours(1);
        Check.same("in 1 more", race.odds(0, 1, 3), 3);
        race.undo();
        race.go(0, 1);
        Check.same("by hand", race.odds(0, 1, 3), 3);
    }

    // ---- 29: lost ----

    // "-2: none; NONE for others."
    static void p29NoSuchWhat() {
        SmellRace race = three();
        for (int what : Edge.outside(0, 1)) {
            Edge.refused("lost(" + what + ")", race, -1, () -> race.lost(what));
        }
    }

    static void p29None() {
        SmellRace race = Check.race("row om; boat a 0 0 0 0;");
        Check.same("which", race.lost(0), -2);
        Check.same("when", race.lost(1), -2);
    }

    // "behind how many HOURS (100 at most)"
    static void p29OneHourAndAHundred() {
        for (int hour : new int[] {0, 99, 100}) {
            SmellRace race = Check.race("row or; boat a 0 0 0 0; steers = if hour < " + hour + " then 0 else 1;");
            Check.same("which, " + hour, race.lost(0), hour < 100 ? 0 : -2);
            Check.same("when, " + hour, race.lost(1), hour < 100 ? hour + 1 : -2);
        }
    }

    // "of those who are not; of one HOUR the first by numbers"
    static void p29OfThoseWhoAreNotLostNow() {
        SmellRace race = Check.race("row oor; boat a 1 0 0 0; boat b 0 0 0 0;");
        Check.same("a", race.lost(0), 0);
        Check.same("in 1", race.lost(1), 1);
        race.go(0, 1);
        Check.same("b", race.lost(0), 1);
        Check.same("in 2", race.lost(1), 2);
        race.hours(2);
        Check.same("none is left", race.lost(0), -2);
        Check.same("none is left", race.lost(1), -2);
    }

    static void p29OfOneHourTheFirst() {
        SmellRace race = Check.race("row oor; boat a 0 0 0 0; boat b 1 0 0 0; boat c 1 0 0 0;");
        Check.same("b", race.lost(0), 1);
        Check.same("in 1", race.lost(1), 1);
    }
}

/** Promises 15 to 29: what would be. */
public final class AheadTest {
    public static void main(String[] args) {
        thenAndMany();
        soonestAndRoute();
        hidden();
        inPlace();
        smelt();
        bareAndMet();
        leader();
        cover();
        out();
        odds();
        lost();
        nothingHappens();
        Check.end("AheadTest");
    }

    private static void thenAndMany() {
        SmellRace race = Check.race("row ooom; row oorm; boat a 0 0 0 0; boat b 1 1 0 0; boat c 2 0 0 0;");
        int[] ax = {0, 1, 2, 3, 3};
        int[] bx = {1, -2, -2, -2, -2};
        int[] home = {0, 1, 1, 2, 2};
        for (int n = 0; n < 5; n++) {
            Check.same("a's x in " + n, race.then(0, n, 0), ax[n]);
            Check.same("a's place in " + n, race.then(0, n, 2), n < 3 ? -2 : 2);
            Check.same("b's x in " + n, race.then(1, n, 0), bx[n]);
            Check.same("b's y in " + n, race.then(1, n, 1), n == 0 ? 1 : -2);
            Check.same("c's place in " + n, race.then(2, n, 2), n == 0 ? -2 : 1);
            Check.same("home in " + n, race.many(n, false), home[n]);
            Check.same("lost in " + n, race.many(n, true), n == 0 ? 0 : 1);
        }
        Check.same("in 100", race.then(0, 100, 0), 3);
        Check.same("many in 100", race.many(100, false), 2);
        Check.same("then(0, 101, 0)", race.then(0, 101, 0), -1);
        Check.same("then(0, -1, 0)", race.then(0, -1, 0), -1);
        Check.same("then(3, 0, 0)", race.then(3, 0, 0), -1);
        Check.same("then(-1, 0, 0)", race.then(-1, 0, 0), -1);
        Check.same("then(0, 0, 3)", race.then(0, 0, 3), -1);
        Check.same("then(0, 0, -1)", race.then(0, 0, -1), -1);
        Check.same("many(101)", race.many(101, true), -1);
        Check.same("many(-1)", race.many(-1, false), -1);
    }

    private static void soonestAndRoute() {
        SmellRace race = Check.race("row orooo; row ororo; row oooro; row rrrrm; row oooom; "
            + "boat a 0 0 0 0; boat b 0 4 0 0; boat c 4 4 0 0; boat d 4 2 0 0;");
        Check.same("a winds about", race.soonest(0), 11);
        int[] due = {2, 2, 1, 1, 4, 4, 1, 1, 2, 2, 2};
        for (int i = 0; i < due.length; i++) {
            Check.same("route(0, " + i + ")", race.route(0, i), due[i]);
        }
        Check.same("not so many", race.route(0, 11), -1);
        Check.same("b", race.soonest(1), 4);
        Check.same("c is home", race.soonest(2), 0);
        Check.same("route of c", race.route(2, 0), -2);
        Check.same("route below 0 first", race.route(2, -1), -1);
        Check.same("d", race.soonest(3), 1);
        Check.same("no such one", race.soonest(4), -1);
        Check.same("no such one", race.soonest(-1), -1);
        Check.same("route(4, 0)", race.route(4, 0), -1);
        Check.same("route(0, -1)", race.route(0, -1), -1);
        race.go(3, 3);
        Check.same("lost", race.soonest(3), -2);
        Check.same("route of the lost", race.route(3, 0), -2);
        // of ways as soon the first by number
        race = Check.race("row ooo; row ooo; row oom; boat a 0 0 0 0; boat b 2 1 0 0;");
        int[] first = {1, 1, 2, 2};
        for (int i = 0; i < 4; i++) {
            Check.same("route(0, " + i + ")", race.route(0, i), first[i]);
        }
        race = Check.race("row mrm; row ooo; boat a 1 1 0 0;");
        Check.same("west is 3, east is 1", race.route(0, 0), 1);
        race = Check.race("row oro; boat a 0 0 0 0;");
        Check.same("no mark", race.soonest(0), -2);
        Check.same("its route", race.route(0, 3), -2);
        race = Check.race("row oooooooo; row rrrrrrro; row oooooooo; row orrrrrrr; row ooooooom; boat a 0 0 0 0;");
        Check.same("a long way", race.soonest(0), 25);
    }

    private static void hidden() {
        // no one else: as soon as soonest
        SmellRace race = Check.race("row ooom; boat a 0 0 3 0;");
        Check.same("alone", race.hidden(0), 3);
        // b lies still ahead in the wind's way: a must wait till it is gone
        race = Check.race("row oooom; boat a 0 0 1 0; boat b 3 0 0 0; steers = if hour < 2 then 0 else 1;");
        Check.same("b is home behind 3 hours", race.hidden(0), 5);
        race = Check.race("row oooom; boat a 0 0 9 0; boat b 3 0 0 0; steers = if hour < 6 then 0 else 1;");
        Check.same("every cell is smelt behind hour 1", race.hidden(0), -2);
        // the hour that is does not count, nor the last one
        race = Check.race("row om; boat a 0 0 9 0; boat b 0 0 0 0; steers = 0;");
        Check.same("one hour", race.hidden(0), 1);
        race = Check.race("row oom; boat a 0 0 0 0; boat b 1 0 0 0; steers = 0;");
        Check.same("b in the way all the time", race.hidden(0), -2);
        race = Check.race("row oom; boat a 0 0 0 0; boat b 1 0 0 0; steers = if hour < 3 then 0 else 1;");
        Check.same("b in the way up to hour 4", race.hidden(0), 5);
        // strength counts, not the pan; what lies behind a rock is not smelt
        race = Check.race("row oom; row oro; row ooo; boat a 0 0 1 0; boat b 1 2 0 0; wind = 1; steers = 0;");
        Check.same("behind a rock", race.hidden(0), 2);
        race = Check.race("row oom; row oro; row ooo; boat a 0 0 2 0; boat b 2 1 0 0; wind = 1; steers = 0;");
        Check.same("not in the wind", race.hidden(0), 2);
        race = Check.race("row oom; row ooo; boat a 0 0 1 0; boat b 1 1 0 0; wind = 1; steers = 0;");
        Check.same("in the wind, round about", race.hidden(0), -2);
        race.pan(0, false);
        Check.same("with the pan out, too", race.hidden(0), -2);
        race.pan(0, true);
        // the others go as if it were nowhere: b steers by placed and smells
        race = Check.race("row oom; row ooo; boat a 0 0 1 0; boat b 1 0 0 9; lies = 9; steers = if 0 < smells then 2 else 0;");
        Check.same("b smells what lies and goes", race.hidden(0), 2);
        race = Check.race("row oom; boat a 0 0 0 0; boat b 1 0 0 0; steers = if hour < 38 then 0 else 1;");
        Check.same("40 hours", race.hidden(0), 40);
        race = Check.race("row oom; boat a 0 0 0 0; boat b 1 0 0 0; steers = if hour < 39 then 0 else 1;");
        Check.same("41 hours", race.hidden(0), -2);
        Check.same("home", Check.race("row om; boat a 1 0 0 0;").hidden(0), 0);
        race = Check.race("row orm; boat a 0 0 0 0;");
        Check.same("no way", race.hidden(0), -2);
        race.go(0, 1);
        Check.same("lost", race.hidden(0), -2);
        Check.same("no such one", race.hidden(1), -1);
        Check.same("no such one", race.hidden(-1), -1);
    }

    private static void inPlace() {
        SmellRace race = Check.race("row ooooom; row ooooom; boat a 2 0 0 0; boat b 3 1 0 0; boat c 0 0 0 0; boat d 5 0 0 0;");
        Check.same("a as the first", race.inPlace(0, 1), -2);
        Check.same("a as the second", race.inPlace(0, 2), -2);
        Check.same("a as the third", race.inPlace(0, 3), 3);
        Check.same("a as the fourth", race.inPlace(0, 4), 6);
        Check.same("b as the second", race.inPlace(1, 2), 2);
        Check.same("b as the third, a comes in hour 3 with a lesser number", race.inPlace(1, 3), 3);
        Check.same("b as the fourth", race.inPlace(1, 4), 6);
        Check.same("c as the fourth", race.inPlace(2, 4), 5);
        Check.same("c as the fifth", race.inPlace(2, 5), -2);
        Check.same("c as the sixth", race.inPlace(2, 6), -2);
        Check.same("home", race.inPlace(3, 1), -2);
        Check.same("home", race.inPlace(3, 2), -2);
        Check.same("home", race.inPlace(3, 3), -2);
        Check.same("p 0", race.inPlace(0, 0), -1);
        Check.same("p 7", race.inPlace(0, 7), -1);
        Check.same("p 7 of one at home", race.inPlace(3, 7), -1);
        Check.same("no such one", race.inPlace(4, 1), -1);
        Check.same("no such one", race.inPlace(-1, 1), -1);
        race = Check.race("row orm; row oom; boat a 0 0 0 0; boat b 0 1 0 0; steers = if hour < 39 then 0 else if hour < 40 then 1 else 1;");
        Check.same("b comes in hour 41: a is first up to 40", race.inPlace(0, 1), 3);
        Check.same("too late", race.inPlace(0, 2), -2);
        race = Check.race("row oom; row oom; boat a 0 0 0 0; boat b 1 1 0 0; steers = if hour < 39 then 0 else 1;");
        Check.same("b comes in hour 40 with a greater number", race.inPlace(0, 2), -2);
        Check.same("a comes in hour 41", race.inPlace(1, 2), -2);
        race = Check.race("row oom; row oom; boat a 1 0 0 0; boat b 1 1 0 0; steers = if hour < 39 then 0 else 1;");
        Check.same("a comes in hour 40 with a lesser number", race.inPlace(1, 2), 40);
        race.go(1, 2);
        race = Check.race("row rom; boat a 1 0 0 0;");
        race.go(0, 3);
        Check.same("lost", race.inPlace(0, 1), -2);
    }

    private static void smelt() {
        SmellRace race = Check.race("row oooooooo; boat a 0 0 1 9; boat b 4 0 0 0; boat c 1 0 0 9; steers = if which < 1 then 1 else 0;");
        Check.same("c smells a now", race.smelt(2, 0), 0);
        Check.same("b smells a in 3", race.smelt(1, 0), 3);
        Check.same("a smells b in 4", race.smelt(0, 1), 4);
        Check.same("a smells c in 1", race.smelt(0, 2), 1);
        Check.same("b smells c never", race.smelt(1, 2), -2);
        Check.same("one and the same", race.smelt(1, 1), -1);
        Check.same("no such one", race.smelt(0, 3), -1);
        Check.same("no such one", race.smelt(3, 0), -1);
        Check.same("no such one", race.smelt(-1, 0), -1);
        Check.same("no such one", race.smelt(0, -1), -1);
        race = Check.race("row oo; boat a 0 0 0 0; boat b 1 0 0 0; steers = if hour < 99 then 0 else 1;");
        Check.same("in 100", race.smelt(0, 1), 100);
        race = Check.race("row oo; boat a 0 0 0 0; boat b 1 0 0 0; steers = if hour < 100 then 0 else 1;");
        Check.same("in 101", race.smelt(0, 1), -2);
    }

    private static void bareAndMet() {
        SmellRace race = Check.race("row ooorm; boat a 0 0 1 0; boat b 1 0 0 0; lies = 0;");
        Check.same("bare(0)", race.bare(0), 1);
        Check.same("bare(1)", race.bare(1), 1);
        Check.same("bare(2): b lost, a before the rock", race.bare(2), 2);
        Check.same("bare(3)", race.bare(3), 3);
        Check.same("bare(100)", race.bare(100), 3);
        Check.same("bare(101)", race.bare(101), -1);
        Check.same("bare(-1)", race.bare(-1), -1);
        race = Check.race("row ooooom; boat a 0 0 0 0; boat b 3 0 0 0; boat c 5 0 0 0; boat d 3 0 0 0;"
            + "steers = if which < 1 then 1 else if hour < 5 then 0 else 1;");
        Check.same("a and b, once", race.met(0, 1, 10), 1);
        Check.same("not in 2", race.met(0, 1, 2), 0);
        Check.same("in 3", race.met(1, 0, 3), 1);
        Check.same("a and c on the mark", race.met(0, 2, 100), 0);
        Check.same("b and d till they are home", race.met(1, 3, 100), 6);
        Check.same("now counts not", race.met(1, 3, 1), 1);
        Check.same("n 0", race.met(0, 1, 0), -1);
        Check.same("n 101", race.met(0, 1, 101), -1);
        Check.same("one and the same", race.met(1, 1, 5), -1);
        Check.same("no such one", race.met(0, 4, 5), -1);
        Check.same("no such one", race.met(-1, 0, 5), -1);
    }

    private static void leader() {
        SmellRace race = Check.race("row ooom; row ooor; boat a 0 0 0 0; boat b 2 1 0 0;");
        Check.same("leader(0)", race.leader(0), 1);
        Check.same("leader(1): b is lost", race.leader(1), 0);
        Check.same("leader(100)", race.leader(100), 0);
        Check.same("leader(101)", race.leader(101), -1);
        Check.same("leader(-1)", race.leader(-1), -1);
        Check.same("no boats", new SmellRace().leader(5), -2);
        Check.same("no boats, no such n", new SmellRace().leader(101), -1);
    }

    private static void cover() {
        SmellRace race = Check.race("row oooooom; boat a 0 0 1 0; boat b 1 0 3 0; boat c 0 0 3 0; boat d 4 0 0 0; boat e 5 0 1 0; steers = 0; lies = 0;");
        Check.same("cells", race.cover(2), 6);
        Check.same("how many", race.cover(0), 3);
        Check.same("which: a, b, e", race.cover(1), 1 + 2 + 16);
        race.pan(1, false);
        Check.same("which: c, d, e", race.cover(1), 4 + 8 + 16);
        Check.same("cells", race.cover(2), 6);
        race.pan(4, false);
        Check.same("which: c, d", race.cover(1), 4 + 8);
        Check.same("cells", race.cover(2), 5);
        race.pan(4, true);
        race.go(4, 1);
        Check.same("home: c, d", race.cover(1), 4 + 8);
        Check.same("no such", race.cover(3), -1);
        Check.same("no such", race.cover(-1), -1);
        race = Check.race("row ooo; boat a 0 0 2 0; boat b 0 0 2 0; boat c 0 0 2 0;");
        Check.same("of alike ones the least", race.cover(1), 1);
        race.pan(0, false);
        Check.same("of the others the least", race.cover(1), 2);
        race = Check.race("row oo; boat a 0 0 0 0; boat b 0 0 0 0; lies = 0;");
        race.pan(0, false);
        race.pan(1, false);
        race.hours(1);
        race.pan(0, true);
        Check.same("a lays not yet", race.cover(0), 0);
        Check.same("in no cells", race.cover(2), 0);
        Check.same("none", race.cover(1), 0);
    }

    private static void out() {
        SmellRace race = Check.race("row oooooooo; boat a 0 0 1 0; boat b 1 0 0 9; steers = if smells < 1 then 1 else 0;");
        Check.same("no one gains by its own pan: all rest", race.out(3, -1), 4);
        for (int i = 0; i < 4; i++) {
            Check.same("out(3, " + i + ")", race.out(3, i), i);
        }
        Check.same("not so many", race.out(3, 4), -1);
        Check.same("n 0", race.out(0, -1), -1);
        Check.same("n 25", race.out(25, -1), -1);
        restsAreByHand(race, 24);
        Check.same("i -2", race.out(24, -2), -1);
        race = Check.race("row ooooooom; boat a 0 0 1 9; boat b 1 0 0 9; lies = 2; steers = if smells < 1 then 0 else 1;");
        restsAreByHand(race, 4);
        race.pan(1, false);
        restsAreByHand(race, 4);
        race.pan(0, false);
        Check.same("no pans on: the empty set", race.out(4, -1), 1);
        Check.same("the empty set", race.out(4, 0), 0);
        onesPanHinders();
    }

    // While a fries, b stays where a smells it, and a stays too: in 4 hours they come to 1, 1 by no set,
    // to 3, 4 by a's pan out, to 4, 3 by b's, to 4, 4 by both.
    private static void onesPanHinders() {
        SmellRace race = Check.race("row oooooooo; boat a 0 0 1 9; boat b 1 0 0 9; lies = 0; steers = if smells < 1 then 1 else 0;");
        Check.same("three rest", race.out(4, -1), 3);
        for (int i = 0; i < 3; i++) {
            Check.same("out(4, " + i + ")", race.out(4, i), i + 1);
        }
        Check.same("not so many", race.out(4, 3), -1);
        Check.same("in 1 hour all rest", race.out(1, -1), 4);
        restsAreByHand(race, 4);
        restsAreByHand(race, 24);
        race.pan(1, false);
        Check.same("b's is out: a may or may not", race.out(4, -1), 2);
        Check.same("b is of no set", race.out(4, 1), 1);
    }

    /** Of two boats, by putting pans out by hand. */
    private static void restsAreByHand(SmellRace race, int n) {
        int pans = race.count(6);
        int found = 0;
        for (int set = 0; set < 4; set++) {
            boolean rest = (set & ~pans) == 0;
            for (int k = 0; k < 2 && rest; k++) {
                rest = (pans >> k & 1) == 0 || east(race, n, set ^ 1 << k, k) <= east(race, n, set, k);
            }
            if (rest) {
                Check.same("out(" + n + ", " + found + ")", race.out(n, found), set);
                found++;
            }
        }
        Check.same("out(" + n + ", NONE)", race.out(n, -1), found);
    }

    private static int east(SmellRace race, int n, int set, int boat) {
        int done = 0;
        for (int k = 0; k < 2; k++) {
            done += (set >> k & 1) == 1 && race.pan(k, false) ? 1 : 0;
        }
        int x = race.then(boat, n, 2) > 0 ? 100 : Math.max(-1, race.then(boat, n, 0));
        for (int i = 0; i < done; i++) {
            race.undo();
        }
        return x;
    }

    private static void odds() {
        String text = "row ooooooom; boat a 0 0 1 9; boat b 0 0 0 9; steers = if smells < 1 then 0 else 1; cold 50; seed ";
        int alike = 0;
        for (int s = 1; s <= 20; s++) {
            alike += Check.race(text + (300 + s - 1) + ";").then(1, 14, 2) > 0 ? 1 : 0;
            Check.same("odds by " + s, Check.race(text + "300;").odds(1, 14, s), alike);
        }
        Check.holds("some, not all: " + alike, alike > 0 && alike < 20);
        SmellRace race = Check.race("row oom; boat a 0 0 0 0; boat b 2 0 0 0;");
        Check.same("in 1", race.odds(0, 1, 20), 0);
        Check.same("in 2", race.odds(0, 2, 20), 20);
        Check.same("home in 0", race.odds(1, 0, 3), 3);
        Check.same("s 0", race.odds(0, 2, 0), -1);
        Check.same("s 21", race.odds(0, 2, 21), -1);
        Check.same("n -1", race.odds(0, -1, 1), -1);
        Check.same("n 101", race.odds(0, 101, 1), -1);
        Check.same("n 100", race.odds(0, 100, 1), 1);
        Check.same("no such one", race.odds(2, 2, 1), -1);
        Check.same("no such one", race.odds(-1, 2, 1), -1);
    }

    private static void lost() {
        SmellRace race = Check.race("row oooro; row oooro; row oooom; boat a 0 2 0 0; boat b 1 1 0 0; boat c 1 0 0 0; boat d 2 0 0 0;");
        Check.same("d first", race.lost(0), 3);
        Check.same("behind 1", race.lost(1), 1);
        race.hours(1);
        Check.same("b, of one hour the first", race.lost(0), 1);
        Check.same("behind 1", race.lost(1), 1);
        race.hours(1);
        Check.same("none", race.lost(0), -2);
        Check.same("none", race.lost(1), -2);
        Check.same("no such", race.lost(2), -1);
        Check.same("no such", race.lost(-1), -1);
        race = Check.race("row or; boat a 0 0 0 0; steers = if hour < 99 then 0 else 1;");
        Check.same("behind 100", race.lost(1), 100);
        race = Check.race("row or; boat a 0 0 0 0; steers = if hour < 100 then 0 else 1;");
        Check.same("behind 101", race.lost(1), -2);
    }

    private static void nothingHappens() {
        SmellRace race = Check.race("row oooooorm; row oooooooo; boat a 0 0 2 9; boat b 2 0 1 9; boat c 3 1 0 4; wind = hour;"
            + "steers = if smells < 1 then 1 else blows; lies = 2; cold 30; seed 8;");
        race.hours(2);
        String before = all(race);
        race.then(0, 50, 0);
        race.many(50, true);
        race.hidden(0);
        race.inPlace(1, 2);
        race.smelt(2, 0);
        race.bare(9);
        race.met(0, 1, 9);
        race.leader(9);
        race.cover(1);
        race.out(9, -1);
        race.odds(0, 9, 9);
        race.lost(0);
        race.rock(9, 1, -1);
        Check.holds("all is as before", before.equals(all(race)));
    }

    private static String all(SmellRace race) {
        StringBuilder all = new StringBuilder();
        for (int what = 0; what < 14; what++) {
            all.append(race.count(what)).append(' ');
        }
        for (int k = 0; k < 3; k++) {
            for (int what = 0; what < 8; what++) {
                all.append(race.boat(k, what)).append(' ');
            }
            for (int c = 0; c < 16; c++) {
                all.append(race.cell(c % 8, c / 8, 0)).append(race.laid(c % 8, c / 8, k, false)).append(race.laid(c % 8, c / 8, k, true));
            }
        }
        return all.toString();
    }
}

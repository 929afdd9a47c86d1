/** Promises 35 to 37: hold, restore, count. */
public final class HoldTest {
    public static void main(String[] args) {
        holding();
        counting();
        Check.end("HoldTest");
    }

    private static void holding() {
        SmellRace race = Check.race("row oooooom; row oooooor; boat a 0 0 1 9; boat b 5 0 0 0; boat c 5 1 0 0; lies = 1;");
        Check.fails("slot -1", race.hold(-1));
        Check.fails("slot 3", race.hold(3));
        Check.fails("nothing is held", race.restore(0));
        Check.fails("slot -1", race.restore(-1));
        Check.fails("slot 3", race.restore(3));
        race.hours(1);
        race.pan(0, false);
        Check.holds("hold", race.hold(0));
        Check.same("no thing done", race.count(9), 2);
        Check.same("one slot", race.count(11), 1);
        race.hours(3);
        race.pan(0, true);
        Check.holds("hold", race.hold(2));
        Check.same("two slots", race.count(11), 2);
        Check.fails("slot 1 holds nothing", race.restore(1));
        Check.same("it goes on", race.count(3), 4);
        Check.holds("can be undone", race.undo());
        Check.holds("restore", race.restore(0));
        Check.same("hour", race.count(3), 1);
        Check.same("x", race.boat(0, 0), 1);
        Check.same("pans", race.count(6), 6);
        Check.same("home", race.count(4), 2);
        Check.same("place", race.boat(1, 2), 1);
        Check.same("lost", race.count(5), 4);
        Check.same("laid", race.laid(2, 0, 0, false), 1);
        Check.same("what lies", race.cell(2, 0, 1), 1);
        Check.fails("nothing can be undone", race.undo());
        race.hours(2);
        Check.holds("it stays there", race.restore(0));
        Check.same("hour", race.count(3), 1);
        Check.same("two slots", race.count(11), 2);
        Check.holds("the other", race.restore(2));
        Check.same("hour", race.count(3), 4);
        Check.same("pans", race.count(6), 7);
        Check.holds("hold over it", race.hold(0));
        race.hours(1);
        race.restore(0);
        Check.same("hour", race.count(3), 4);
        Check.feed(race, "row o");
        race.restore(0);
        Check.same("not the tape", race.count(8), 5);
        SmellRace empty = new SmellRace();
        Check.holds("a bay of no cells is held, too", empty.hold(1));
        empty.hours(7);
        Check.holds("restore", empty.restore(1));
        Check.same("hour", empty.count(3), 0);
    }

    private static void counting() {
        SmellRace race = Check.race("row ooom; row roor; boat a 0 0 0 0; boat b 2 0 0 0; boat c 2 1 0 0; boat d 1 1 0 0; wind = hour;");
        race.hours(1);
        race.pan(3, false);
        race.tell(0, 0);
        race.tell(0, 1);
        race.hold(1);
        race.feed(0, 0, 0, 0, 0);
        int[] due = {4, 2, 4, 1, 2, 4, 7, 2, 20, 2, 2, 1, 5, 9};
        for (int what = 0; what < due.length; what++) {
            Check.same("count(" + what + ")", race.count(what), due[what]);
        }
        Check.same("count(14)", race.count(14), -1);
        Check.same("count(-1)", race.count(-1), -1);
        Check.same("count(min)", race.count(Integer.MIN_VALUE), -1);
    }
}

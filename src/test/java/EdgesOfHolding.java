/** Promises 35 to 37: hold, restore, count; and an object's 512 calls. */
final class EdgesOfHolding {
    private static final String TEXT = "row ooom; row ooor; boat a 0 0 1 9; boat b 2 0 1 9; boat c 2 1 1 9; boat d 0 1 2 9; lies = 3;";

    private EdgesOfHolding() {
    }

    // ---- 35: hold ----

    // "true; false: no such one."
    static void p35NoSuchSlot() {
        SmellRace race = Check.race(TEXT);
        for (int slot : Edge.outside(0, 2)) {
            Edge.refused("hold(" + slot + ")", race, 0, () -> Edge.bit(race.hold(slot)));
        }
        Check.same("none holds something", race.count(11), 0);
    }

    static void p35EachSlotByItself() {
        SmellRace race = Check.race(TEXT);
        for (int slot = 0; slot < 3; slot++) {
            Check.holds("hold(" + slot + ")", race.hold(slot));
            Check.same("slots", race.count(11), slot + 1);
            race.hours(1);
        }
        for (int slot = 2; slot >= 0; slot--) {
            Check.holds("restore(" + slot + ")", race.restore(slot));
            Check.same("hour", race.count(3), slot);
        }
    }

    static void p35HeldOverWhatWasThere() {
        SmellRace race = Check.race(TEXT);
        race.hold(1);
        race.hours(4);
        Check.holds("hold", race.hold(1));
        Check.same("one slot", race.count(11), 1);
        race.hours(4);
        race.restore(1);
        Check.same("hour", race.count(3), 4);
    }

    static void p35IsNothingDone() {
        SmellRace race = Check.race(TEXT);
        race.hours(1);
        race.hold(0);
        Check.same("things done", race.count(9), 1);
        Check.holds("undo", race.undo());
        Check.same("hour", race.count(3), 0);
        Check.same("the slot holds still", race.count(11), 1);
        Check.holds("restore", race.restore(0));
        Check.same("hour", race.count(3), 1);
    }

    static void p35ABayOfNoCells() {
        SmellRace race = new SmellRace();
        Check.holds("hold", race.hold(0));
        race.hours(3);
        Check.holds("restore", race.restore(0));
        Check.same("hour", race.count(3), 0);
    }

    // ---- 36: restore ----

    // "false, and nothing happens: no such one, nothing is held."
    static void p36NoSuchSlot() {
        SmellRace race = Check.race(TEXT);
        for (int slot = 0; slot < 3; slot++) {
            race.hold(slot);
        }
        race.hours(2);
        for (int slot : Edge.outside(0, 2)) {
            Edge.refused("restore(" + slot + ")", race, 0, () -> Edge.bit(race.restore(slot)));
        }
        Check.holds("it can be undone still", race.undo());
    }

    static void p36NothingIsHeld() {
        for (int held = 0; held < 3; held++) {
            SmellRace race = Check.race(TEXT);
            race.hold(held);
            race.hours(2);
            for (int slot = 0; slot < 3; slot++) {
                int other = slot;
                if (slot != held) {
                    Edge.refused("restore(" + slot + ")", race, 0, () -> Edge.bit(race.restore(other)));
                }
            }
            Check.holds("it can be undone still", race.undo());
        }
    }

    static void p36ATextEmptiesTheSlots() {
        SmellRace race = Check.race(TEXT);
        race.hold(0);
        Check.feed(race, "row o; #");
        Check.same("a fault", race.read(), 1);
        Check.same("it holds still", race.count(11), 1);
        Check.feed(race, TEXT);
        Check.same("a text", race.read(), 0);
        Check.same("no slots", race.count(11), 0);
        Check.fails("restore", race.restore(0));
    }

    // "(that stays there; nothing can be undone then)"
    static void p36ItStaysThere() {
        SmellRace race = Check.race(TEXT);
        race.hours(1);
        race.hold(2);
        for (int i = 0; i < 3; i++) {
            race.hours(5);
            race.pan(0, false);
            race.go(0, 2);
            Check.holds("restore", race.restore(2));
            Check.same("hour", race.count(3), 1);
            Check.same("pans", race.count(6), 15);
            Check.same("a's y", race.boat(0, 1), 0);
        }
    }

    static void p36NothingCanBeUndoneThen() {
        SmellRace race = Check.race(TEXT);
        race.hours(1);
        race.hold(0);
        race.hours(1);
        race.restore(0);
        Check.same("things done", race.count(9), 0);
        Edge.refused("undo", race, 0, () -> Edge.bit(race.undo()));
        race.hours(1);
        Check.holds("what is done behind it can be", race.undo());
        Check.fails("and no more", race.undo());
        Check.same("hour", race.count(3), 1);
    }

    // "All that goes on (not what is TOLD, nor the tape)"
    static void p36AllThatGoesOn() {
        SmellRace race = Check.race(TEXT);
        race.hours(1);
        race.pan(3, false);
        race.go(3, 1);
        race.hold(0);
        race.restore(0);
        String held = Edge.all(race);
        race.hours(7);
        race.pan(3, true);
        race.pan(0, false);
        race.restore(0);
        Check.holds("all is as held", Edge.all(race).equals(held));
    }

    static void p36NotWhatIsToldNorTheTape() {
        SmellRace race = Check.race(TEXT);
        race.tell(0, 1);
        race.hold(0);
        race.tell(0, 2);
        Check.feed(race, "seed 1;");
        race.restore(0);
        Check.same("told ones", race.count(10), 2);
        Check.same("bytes", race.count(8), 7);
        Check.same("read", race.read(), 0);
    }

    // ---- 37: count ----

    // "NONE for others."
    static void p37NoSuchWhat() {
        SmellRace race = Check.race(TEXT);
        for (int what : Edge.outside(0, 13)) {
            Edge.refused("count(" + what + ")", race, -1, () -> race.count(what));
        }
    }

    static void p37OfTheFullestBay() {
        StringBuilder text = new StringBuilder("row oooooooo;".repeat(5));
        for (int k = 0; k < 6; k++) {
            text.append("boat ").append((char) ('a' + k)).append(" 7 4 9 9;");
        }
        SmellRace race = Check.race(text + "wind = 3;");
        int[] due = {8, 5, 6, 0, 0, 0, 63, 4, 0, 0, 0, 0, 40, 63};
        for (int what = 0; what < due.length; what++) {
            Check.same("count(" + what + ")", race.count(what), due[what]);
        }
    }

    static void p37AllHomeAndAllLost() {
        StringBuilder boats = new StringBuilder();
        for (int k = 0; k < 6; k++) {
            boats.append("boat ").append((char) ('a' + k)).append(" 0 0 0 0;");
        }
        SmellRace home = Check.race("row om;" + boats);
        home.hours(1);
        Check.same("home", home.count(4), 63);
        Check.same("sailing", home.count(13), 0);
        SmellRace lost = Check.race("row or;" + boats);
        lost.hours(1);
        Check.same("lost", lost.count(5), 63);
        Check.same("sailing", lost.count(13), 0);
    }

    static void p37NoWaterNoBoats() {
        SmellRace race = Check.race("row rm; row mr;");
        Check.same("water", race.count(12), 0);
        Check.same("boats", race.count(2), 0);
        Check.same("pans", race.count(6), 0);
    }

    static void p37TheTapeFromEmptyToFull() {
        SmellRace race = new SmellRace();
        for (int i = 0; i <= 100; i++) {
            Check.same("bytes", race.count(8), 20 * i);
            race.feed(0, 0, 0, 0, 0);
        }
        Check.same("bytes", race.count(8), 2000);
    }

    // "An object is used for at most 512 calls": nine to read the text, 499 times a hundred hours, four more
    static void p37BehindAsManyHoursAsCanBe() {
        SmellRace race = Check.race("row oooooooo; boat a 0 0 3 9; boat b 7 0 3 9; wind = hour; steers = 1 + 2 * (hour / 7 - hour / 14 * 2); lies = 9;");
        for (int i = 1; i <= 499; i++) {
            Check.same("hours(100)", race.hours(100), 100 * i);
        }
        Check.same("things done", race.count(9), 30);
        Check.same("the wind", race.count(7), 1);
        Check.same("laid", race.laid(race.boat(0, 0), 0, 0, false), 49900);
    }
}

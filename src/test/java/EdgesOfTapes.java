/** Promises 1, 2, 3 and 5: a new object, feed, back, place. */
final class EdgesOfTapes {
    private static final int BLANKS = 0x20202020;

    private EdgesOfTapes() {
    }

    // "A bay of no CELLS."
    static void p01NothingIsThere() {
        SmellRace race = new SmellRace();
        int[] due = {0, 0, 0, 0, 0, 0, 0, 1, 0, 0, 0, 0, 0, 0};
        for (int what = 0; what < due.length; what++) {
            Check.same("new, count(" + what + ")", race.count(what), due[what]);
        }
        for (int what = 0; what <= 2; what++) {
            Check.same("new, cell(0, 0, " + what + ")", race.cell(0, 0, what), -1);
        }
    }

    static void p01WhatNeedsABoatIsRefused() {
        SmellRace race = new SmellRace();
        for (int what = 0; what <= 7; what++) {
            Check.same("boat(0, " + what + ")", race.boat(0, what), -1);
        }
        Check.same("laid", race.laid(0, 0, 0, false), -1);
        Check.same("steers", race.steers(0), -1);
        Check.same("go", race.go(0, 1), -1);
        Check.fails("pan", race.pan(0, false));
        Check.same("then", race.then(0, 0, 0), -1);
        Check.same("ranked", race.ranked(0), -1);
        Check.same("soonest", race.soonest(0), -1);
        Check.same("route", race.route(0, 0), -1);
        Check.same("hidden", race.hidden(0), -1);
        Check.same("inPlace", race.inPlace(0, 1), -1);
        Check.same("smelt", race.smelt(0, 1), -1);
        Check.same("met", race.met(0, 1, 1), -1);
        Check.same("odds", race.odds(0, 1, 1), -1);
        Check.same("tell", race.tell(0, 0), -1);
        Check.same("sure", race.sure(0, 0), -1);
        Check.same("things done", race.count(9), 0);
    }

    static void p01WhatNeedsNoneIsAnswered() {
        SmellRace race = new SmellRace();
        Check.same("wind", race.wind(0), 1);
        Check.same("many home", race.many(100, false), 0);
        Check.same("many lost", race.many(100, true), 0);
        Check.same("bare", race.bare(100), 0);
        Check.same("leader", race.leader(0), -2);
        for (int what = 0; what <= 2; what++) {
            Check.same("cover(" + what + ")", race.cover(what), 0);
        }
        Check.same("one rest", race.out(24, -1), 1);
        Check.same("of nobody", race.out(24, 0), 0);
        Check.same("not two", race.out(24, 1), -1);
        Check.same("lost(0)", race.lost(0), -2);
        Check.same("lost(1)", race.lost(1), -2);
        Check.same("one way to fry nothing", race.fried(0), 1);
        Check.same("no rocks", race.rock(60, 0, -1), 0);
        Check.same("no first rock", race.rock(60, 0, 0), -1);
        Check.same("a set of no such boat", race.rock(60, 1, -1), -1);
        Check.same("forget", race.forget(), 0);
        Check.fails("undo", race.undo());
        Check.fails("restore", race.restore(0));
    }

    static void p01HoursGoByThere() {
        SmellRace race = new SmellRace();
        Check.same("hours", race.hours(100), 100);
        Check.holds("undo", race.undo());
        Check.same("hour", race.count(3), 0);
    }

    // "Twenty bytes, the highest of a first, come behind the tape: how many it has."
    static void p02AFeedIsTwentyBytes() {
        SmellRace race = new SmellRace();
        Check.same("the first", race.feed(0, 0, 0, 0, 0), 20);
        Check.same("the next", race.feed(0, 0, 0, 0, 0), 40);
    }

    static void p02BytesComeInTheirOrder() {
        // a sign that is no token, put at each of the twenty bytes
        for (int at = 0; at < 20; at++) {
            int[] five = {BLANKS, BLANKS, BLANKS, BLANKS, BLANKS};
            five[at / 4] ^= (' ' ^ '#') << 24 - 8 * (at % 4);
            SmellRace race = new SmellRace();
            race.feed(five[0], five[1], five[2], five[3], five[4]);
            Check.same("read", race.read(), 1);
            Check.same("its place", race.place(), at);
        }
    }

    static void p02TheyComeBehindTheTape() {
        SmellRace race = new SmellRace();
        race.feed(BLANKS, BLANKS, BLANKS, BLANKS, BLANKS);
        race.back(3);
        race.feed('#' << 24 | 0x202020, BLANKS, BLANKS, BLANKS, BLANKS);
        Check.same("read", race.read(), 1);
        Check.same("its place", race.place(), 17);
    }

    static void p02BytesAbove127AreBytes() {
        SmellRace race = new SmellRace();
        Check.same("all bits", race.feed(-1, -1, -1, -1, -1), 20);
        Check.same("read", race.read(), 1);
        Check.same("place", race.place(), 0);
        race.feed(BLANKS, 0x20202080, BLANKS, BLANKS, Integer.MIN_VALUE);
        Check.same("read", race.read(), 1);
        Check.same("place", race.place(), 7);
    }

    private static SmellRace fullTape() {
        SmellRace race = new SmellRace();
        for (int i = 1; i <= 100; i++) {
            Check.same("feed " + i, race.feed(BLANKS, BLANKS, BLANKS, BLANKS, BLANKS), 20 * i);
        }
        return race;
    }

    // "NONE, and nothing comes, if it would have more than 2,000."
    static void p02AFullTapeRefuses() {
        SmellRace race = fullTape();
        Edge.refused("feed beyond 2,000", race, -1, () -> race.feed(-1, -1, -1, -1, -1));
        Check.same("bytes", race.count(8), 2000);
        Check.same("its bytes are blanks still", race.read(), 0);
    }

    static void p02TwentyFitUpTo1980() {
        for (int room = 0; room <= 20; room++) {
            SmellRace race = fullTape();
            race.back(room);
            int due = room < 20 ? -1 : 2000;
            Check.same("feed with room for " + room, race.feed(-1, -1, -1, -1, -1), due);
            Check.same("bytes", race.count(8), room < 20 ? 2000 - room : 2000);
            Check.same("read", race.read(), room < 20 ? 0 : 1);
            Check.same("place", race.place(), room < 20 ? -1 : 1980);
        }
    }

    static void p02AnEmptiedTapeHasRoomAgain() {
        SmellRace race = fullTape();
        race.read();
        Check.same("feed", race.feed(0, 0, 0, 0, 0), 20);
    }

    // "The last n bytes of the tape go: how many it has."
    static void p03NoBytesGo() {
        SmellRace race = new SmellRace();
        Check.same("of an empty tape", race.back(0), 0);
        race.feed(0, 0, 0, 0, 0);
        Check.same("of one with bytes", race.back(0), 20);
    }

    static void p03AllBytesGo() {
        SmellRace race = new SmellRace();
        race.feed(-1, -1, -1, -1, -1);
        Check.same("all", race.back(20), 0);
        Check.same("read of nothing", race.read(), 0);
        SmellRace full = fullTape();
        Check.same("all of a full one", full.back(2000), 0);
    }

    static void p03TheLastOnesGo() {
        SmellRace race = new SmellRace();
        Check.feed(race, "row oom;#");
        Check.same("one goes", race.back(1), 8);
        Check.same("read", race.read(), 0);
        Check.same("the row is there", race.count(0), 3);
    }

    // "NONE, and nothing goes, if it has not so many, or n is below 0."
    static void p03NotSoMany() {
        SmellRace empty = new SmellRace();
        Check.same("one of none", empty.back(1), -1);
        SmellRace race = new SmellRace();
        Check.feed(race, "row oom;");
        Edge.refused("one too many", race, -1, () -> race.back(9));
        Edge.refused("far too many", race, -1, () -> race.back(Integer.MAX_VALUE));
        Check.same("bytes", race.count(8), 8);
        Check.same("read", race.read(), 0);
        Check.same("the row is there", race.count(0), 3);
        SmellRace full = fullTape();
        Check.same("2,001 of 2,000", full.back(2001), -1);
    }

    static void p03Below0() {
        SmellRace race = new SmellRace();
        Check.feed(race, "row oom;");
        Edge.refused("back(-1)", race, -1, () -> race.back(-1));
        Edge.refused("back(-8)", race, -1, () -> race.back(-8));
        Edge.refused("back(least)", race, -1, () -> race.back(Integer.MIN_VALUE));
        Check.same("bytes", race.count(8), 8);
    }

    // "The byte of the latest read()'s FAULT; NONE without."
    static void p05NoneBeforeARead() {
        SmellRace race = new SmellRace();
        Check.same("new", race.place(), -1);
        race.feed(-1, -1, -1, -1, -1);
        Check.same("fed, not read", race.place(), -1);
    }

    static void p05TheFirstByte() {
        Edge.fault(";", 1, 0);
    }

    static void p05TheTextsEnd() {
        Edge.fault("row o", 1, 5);
        Edge.fault("row o ", 1, 6);
    }

    static void p05TheEndOfAFullText() {
        SmellRace race = fullTape();
        race.back(20);
        race.feed(BLANKS, BLANKS, BLANKS, BLANKS, 0x20726f77);
        Check.same("a row without letters", race.read(), 1);
        Check.same("at byte 2,000", race.place(), 2000);
    }

    static void p05TheLatestReadCounts() {
        SmellRace race = new SmellRace();
        Check.feed(race, "row ;");
        race.read();
        Check.same("a fault", race.place(), 4);
        race.place();
        Check.same("asked once more", race.place(), 4);
        Check.feed(race, " ?");
        Check.same("fed, not read", race.place(), 4);
        race.read();
        Check.same("another fault", race.place(), 1);
        Check.feed(race, "row o;");
        race.read();
        Check.same("without one", race.place(), -1);
        Check.feed(race, "?");
        race.read();
        Check.same("a fault again", race.place(), 0);
        race.read();
        Check.same("an empty text has none", race.place(), -1);
    }
}

/** Promises 1 to 5: a new object, feed, back, read, place. */
public final class TapeTest {
    private static final String ROW = "row oooo;";

    public static void main(String[] args) {
        newObject();
        feedAndBack();
        tokens();
        syntax();
        room();
        twiceAndWrong();
        bay();
        whichFaultIsFirst();
        faultChangesNothing();
        textIsInPlaceOfTheOther();
        lastOneCounts();
        Check.end("TapeTest");
    }

    private static void newObject() {
        SmellRace race = new SmellRace();
        int[] due = {0, 0, 0, 0, 0, 0, 0, 1, 0, 0, 0, 0, 0, 0, -1};
        for (int what = 0; what < due.length; what++) {
            Check.same("new, count(" + what + ")", race.count(what), due[what]);
        }
        Check.same("new, place()", race.place(), -1);
        Check.same("new, cell(0, 0, 0)", race.cell(0, 0, 0), -1);
        Check.same("NONE", SmellRace.NONE, -1);
    }

    private static void feedAndBack() {
        SmellRace race = new SmellRace();
        Check.same("back of nothing", race.back(1), -1);
        Check.same("back(0)", race.back(0), 0);
        for (int i = 1; i <= 100; i++) {
            Check.same("feed " + i, race.feed(0, 1, 2, 3, 4), 20 * i);
        }
        Check.same("feed 101", race.feed(0, 0, 0, 0, 0), -1);
        Check.same("tape", race.count(8), 2000);
        Check.same("back(2001)", race.back(2001), -1);
        Check.same("back(-1)", race.back(-1), -1);
        Check.same("back(min)", race.back(Integer.MIN_VALUE), -1);
        Check.same("back(max)", race.back(Integer.MAX_VALUE), -1);
        Check.same("back(19)", race.back(19), 1981);
        Check.same("feed beyond 2000", race.feed(0, 0, 0, 0, 0), -1);
        Check.same("back(1)", race.back(1), 1980);
        Check.same("feed up to 2000", race.feed(0, 0, 0, 0, 0), 2000);
        Check.same("back(2000)", race.back(2000), 0);
        // "row oooom; boat a 0 " and the rest: the highest byte of each comes first
        race.feed(0x726f7720, 0x6f6f6f6f, 0x6d3b2062, 0x6f617420, 0x61203020);
        race.feed(0x30203120, 0x323b2020, 0x20202020, 0x20202020, 0x20202020);
        Check.same("read by hand", race.read(), 0);
        Check.same("tape is empty then", race.count(8), 0);
        Check.same("five long", race.count(0), 5);
        Check.same("one boat", race.count(2), 1);
    }

    private static void fault(String text, int number, int place) {
        SmellRace race = new SmellRace();
        Check.feed(race, text);
        Check.same("bytes of " + text, race.count(8), text.length());
        Check.same("read of " + text, race.read(), number);
        Check.same("place in " + text, race.place(), place);
        Check.same("tape behind " + text, race.count(8), 0);
    }

    private static void good(String text) {
        fault(text, 0, -1);
    }

    private static void tokens() {
        good("");
        good(" \t\r\n");
        good("row\toooo\r;\nseed 1;");
        good("row o;cold5;seed7;wind=1+2*3/(hour);");
        good("row oooooooo;");
        fault("row ooooooooo;", 1, 4);
        good("seed 9999;");
        good("seed 0000;");
        fault("seed 12345;", 1, 5);
        fault("row ooo.;", 1, 7);
        fault("row Ooo;", 1, 4);
        fault("row oOo;", 1, 5);
        fault("row oo\u000bo;", 1, 6);
        fault("row oo\0;", 1, 6);
        fault("row oo\u00e9;", 1, 6);
        fault("row o_o;", 1, 5);
        // a name, then a number, without a blank between
        good("row oo;boat a1 0 0 0;");
        good("row oo;boat rows 1 0 0 0;boat ifs 0 0 0 0;");
        for (String word : new String[] {"row", "boat", "wind", "steers", "lies", "cold", "seed", "if", "then", "else", "hour",
            "east", "south", "blows", "smells", "near", "which", "strong", "placed"}) {
            fault("row o;boat " + word + " 0 0 0 0;", 1, 11);
        }
        good("row o;boat rowe 0 0 0 0;boat bo 0 0 0 0;");
    }

    private static void syntax() {
        fault("row", 1, 3);
        fault("row  ", 1, 5);
        fault("row oo", 1, 6);
        fault("row ;", 1, 4);
        fault("row 12;", 1, 4);
        fault(";", 1, 0);
        fault("x", 1, 0);
        fault("row oo;;", 1, 7);
        fault("boat a 0 0 0;", 1, 12);
        fault("boat a 0 0 0 0 0;", 1, 15);
        fault("boat 0 0 0 0;", 1, 5);
        fault("cold;", 1, 4);
        fault("cold x;", 1, 5);
        fault("seed 1 2;", 1, 7);
        fault("wind 1;", 1, 5);
        fault("wind = ;", 1, 7);
        fault("wind = -1;", 1, 7);
        fault("wind = 1 +;", 1, 10);
        fault("wind = 1 2;", 1, 9);
        fault("wind = (1;", 1, 9);
        fault("wind = 1);", 1, 8);
        fault("wind = ();", 1, 8);
        fault("wind = x;", 1, 7);
        fault("wind = if 1 then 2 else 3;", 1, 12);
        fault("wind = if 1 < 2 else 3;", 1, 16);
        fault("wind = if 1 < 2 then 3;", 1, 22);
        fault("wind = if 1 < 2 then if 1 < 2 then 3 else 4 else 5;", 1, 21);
        fault("wind = (if 1 < 2 then 3 else 4);", 1, 8);
        fault("wind = 1 < 2;", 1, 9);
        fault("wind = if (1 < 2) then 3 else 4;", 1, 13);
        fault("wind = hour", 1, 11);
        fault("then = 1;", 1, 0);
    }

    private static void room() {
        String rows = "row o;".repeat(5);
        good(rows);
        fault(rows + "row o;", 2, 30);
        fault(rows + " row x", 2, 31);
        String boats = "row o;";
        for (int k = 0; k < 6; k++) {
            boats += "boat b" + (char) ('a' + k) + " 0 0 0 0;";
        }
        good(boats);
        fault(boats + "boat z 0 0 0 0;", 2, boats.length());
        fault(boats + "boat ba 0 0 0 0;", 2, boats.length());
        String ifs = "if 1 < 0 then 2 else ".repeat(4);
        good("lies = " + ifs + "3;steers = " + ifs + "3;");
        fault("lies = " + ifs + "if 1 < 0 then 2 else 3;", 2, 7 + ifs.length());
        fault("lies = " + ifs + "if", 2, 7 + ifs.length());
        good("wind = ((((((1))))));");
        good("wind = ((((((1))))))+((((((hour))))));");
        fault("wind = (((((((1)))))));", 2, 13);
        fault("wind = ((((((1+(2", 2, 15);
        fault("wind = if ((((((1)))))) < (((((((2))))))) then 1 else 2;", 2, 32);
        manyTokens();
    }

    private static void manyTokens() {
        String most = "wind=1" + "+1".repeat(198) + ";";
        good(most);
        fault(most + "cold 1;", 2, most.length());
        fault(most + ")", 1, most.length());
        fault(most + "#", 1, most.length());
        good(most + "  ");
        String longer = "wind=1" + "+1".repeat(199) + ";";
        fault(longer, 2, longer.length() - 2);
        fault("wind=1" + "+1".repeat(198) + "+", 1, 5 + 2 * 199);
        fault("wind=1" + "+1".repeat(198) + "+;", 1, 5 + 2 * 199);
        fault("row x;" + longer, 2, longer.length() + 6 - 5);
    }

    private static void twiceAndWrong() {
        fault(ROW + "boat a 0 0 0 0; boat a 1 0 0 0;", 3, 30);
        good(ROW + "boat a 0 0 0 0; boat aa 1 0 0 0; boat b 0 0 0 0;");
        good(ROW + "boat abcdefgh 0 0 0 0; boat abcdefgi 1 0 0 0;");
        fault(ROW + "boat a 10 0 0 0;", 5, 16);
        fault(ROW + "boat a 0 10 0 0;", 5, 18);
        fault(ROW + "boat a 0 0 10 0;", 5, 20);
        fault(ROW + "boat a 0 0 0 10;", 5, 22);
        good(ROW + "boat a 0003 0000 0009 9;");
        good("cold 0; cold 100; seed 0;");
        fault("cold 101;", 5, 5);
        fault("cold 101; cold 1;", 5, 5);
        good("wind = 9999;");
    }

    private static void bay() {
        fault("row oxo;", 6, 4);
        fault("row oo; row ooo;", 6, 12);
        fault("row oo; row o;", 6, 12);
        fault("row oo; row oo; row ob;", 6, 20);
        fault("boat a 0 0 0 0;", 6, 15);
        fault(ROW + "boat a 4 0 0 0;", 6, 24);
        fault(ROW + "boat a 0 1 0 0; ", 6, 25);
        fault("row oorm; boat a 2 0 0 0;", 6, 25);
        good("row oorm; boat a 3 0 0 0;");
        good("boat a 1 1 0 0; row ro; row ro;");
        fault("boat a 9 9 0 0; row oooooooo; row oooooooo;", 6, 43);
    }

    private static void whichFaultIsFirst() {
        fault("row x; boat a 99 0 0 0;", 6, 4);
        fault("boat a 99 0 0 0; row x;", 5, 7);
        fault(ROW + "boat a 9 0 0 0; boat a 0 0 99 0;", 3, 30);
        fault(ROW + "boat a 0 0 99 0; boat a 0 0 0 0;", 5, 20);
        fault(ROW + "boat a 9 0 0 0; cold 200;", 5, 30);
        // SYNTAX and ROOM stand before all others
        fault("row x; row", 1, 10);
        fault("cold 101; seed", 1, 14);
        fault("cold 101; wind = (((((((1;", 2, 23);
        fault("row o; ?" + "row o;".repeat(6), 1, 7);
        fault("row o;".repeat(6) + "?", 2, 30);
    }

    private static void faultChangesNothing() {
        SmellRace race = Check.race("row oooom; boat a 0 0 1 1; boat b 1 0 1 1;");
        race.hours(1);
        race.tell(0, 1);
        race.hold(2);
        Check.feed(race, "row oo; boat a 0 0 0 0; boat a 0 0 0 0;");
        Check.same("a fault", race.read(), 3);
        Check.same("its place", race.place(), 29);
        int[] due = {5, 1, 2, 1, 0, 0, 3, 1, 0, 1, 1, 1, 4, 3};
        for (int what = 0; what < due.length; what++) {
            Check.same("behind a fault, count(" + what + ")", race.count(what), due[what]);
        }
        Check.same("a goes on by its old law", race.then(0, 1, 0), 2);
        Check.holds("undo", race.undo());
        Check.same("place stays", race.place(), 29);
        Check.same("read of nothing", race.read(), 0);
        Check.same("place without a fault", race.place(), -1);
    }

    private static void textIsInPlaceOfTheOther() {
        SmellRace race = Check.race("row oooom; boat a 0 0 1 1; boat b 1 0 1 1; wind = 2; steers = 0; lies = 9; cold 100;");
        race.hours(5);
        race.pan(0, false);
        race.tell(0, 1);
        race.hold(1);
        Check.feed(race, "row mo; row oo; boat c 1 1 0 0; boat d 0 0 0 0; boat e 0 0 3 0; boat f 1 1 0 0;");
        Check.same("read", race.read(), 0);
        int[] due = {2, 2, 4, 0, 6, 0, 15, 1, 0, 0, 0, 0, 3, 9};
        for (int what = 0; what < due.length; what++) {
            Check.same("the next text, count(" + what + ")", race.count(what), due[what]);
        }
        Check.fails("undo", race.undo());
        Check.fails("restore", race.restore(1));
        Check.same("first home", race.boat(1, 2), 1);
        Check.same("next home", race.boat(2, 2), 2);
        Check.same("laws are as if not told", race.steers(0), 1);
        Check.same("lies", race.laid(1, 1, 0, true), 1);
        Check.same("no cold", race.boat(0, 6), 0);
        Check.same("who is home lays nothing", race.laid(0, 0, 2, false), -2);
        Check.same("smells of now", race.cell(1, 1, 1), 9);
        Check.same("read of nothing", race.read(), 0);
        Check.same("no rows", race.count(1), 0);
        Check.same("no boats", race.count(2), 0);
    }

    private static void lastOneCounts() {
        SmellRace race = Check.race("row oooo; boat a 1 0 0 0; steers = 1; steers = 3; wind = 1; wind = 2; lies = 4; lies = 5;"
            + "cold 100; cold 0; seed 5; seed 6;");
        Check.same("steers", race.steers(0), 3);
        Check.same("wind", race.wind(0), 3);
        Check.same("lies", race.laid(1, 0, 0, true), 5);
        Check.same("cold", race.boat(0, 6), 0);
    }
}

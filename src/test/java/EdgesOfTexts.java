import java.util.ArrayList;
import java.util.List;
import java.util.Set;

/** Promise 4: read; what a text is, and the faults that it can have. */
final class EdgesOfTexts {
    private static final String[] WORDS = {"row", "boat", "wind", "steers", "lies", "cold", "seed", "if", "then", "else",
        "hour", "east", "south", "blows", "smells", "near", "which", "strong", "placed"};
    private static final String ROW = "row oooo;";
    private static final String UNITS = "1 hour east south blows smells near which strong placed (";
    private static final String GOES_ON = "+ - * /";
    // Each beginning of a text, and the tokens with which it goes on; "o" is a name, "1" an int, "." the end.
    private static final String[][] GRAMMAR = {
        {"", "row boat wind steers lies cold seed ."},
        {"row o ;", "row boat wind steers lies cold seed ."},
        {"row", "o"}, {"row o", ";"},
        {"boat", "o"}, {"boat o", "1"}, {"boat o 1", "1"}, {"boat o 1 1", "1"}, {"boat o 1 1 1", "1"}, {"boat o 1 1 1 1", ";"},
        {"wind", "="}, {"steers", "="}, {"lies", "="},
        {"wind =", UNITS + " if"}, {"steers =", UNITS + " if"}, {"lies =", UNITS + " if"},
        {"wind = if", UNITS}, {"wind = if 1", GOES_ON + " <"}, {"wind = if 1 <", UNITS}, {"wind = if 1 < 1", GOES_ON + " then"},
        {"wind = if 1 < 1 then", UNITS}, {"wind = if 1 < 1 then 1", GOES_ON + " else"},
        {"wind = if 1 < 1 then 1 else", UNITS + " if"}, {"wind = if 1 < 1 then 1 else 1", GOES_ON + " ;"},
        {"wind = 1", GOES_ON + " ;"}, {"wind = hour", GOES_ON + " ;"},
        {"wind = 1 +", UNITS}, {"wind = 1 -", UNITS}, {"wind = 1 *", UNITS}, {"wind = 1 /", UNITS},
        {"wind = (", UNITS}, {"wind = ( 1", GOES_ON + " )"}, {"wind = ( 1 + 1", GOES_ON + " )"},
        {"wind = ( 1 )", GOES_ON + " ;"}, {"wind = ( ( 1 )", GOES_ON + " )"},
        {"cold", "1"}, {"cold 1", ";"}, {"seed", "1"}, {"seed 1", ";"}};

    private EdgesOfTexts() {
    }

    private static List<String> allTokens() {
        List<String> all = new ArrayList<>(List.of(WORDS));
        all.addAll(List.of("o", "1", ";", "=", "+", "-", "*", "/", "<", "(", ")"));
        return all;
    }

    // "A TEXT has 2,000 bytes at most."
    static void p04AFullText() {
        String text = " ".repeat(1980) + "row oom;seed 9999  ;";
        Edge.good(text);
        Edge.good(" ".repeat(1988) + "row oooooom;");
        Edge.fault(" ".repeat(1999) + "(", 1, 1999);
    }

    static void p04AnEmptyText() {
        SmellRace race = Check.race("row oom; boat a 0 0 0 0;");
        Check.same("read", race.read(), 0);
        Check.same("place", race.place(), -1);
        int[] due = {0, 0, 0, 0, 0, 0, 0, 1, 0, 0, 0, 0, 0, 0};
        for (int what = 0; what < due.length; what++) {
            Check.same("count(" + what + ")", race.count(what), due[what]);
        }
    }

    static void p04ATextOfBlanks() {
        Edge.good(" ");
        Edge.good("\t\n\r ".repeat(500));
    }

    // "The tape, which is empty then, is read"
    static void p04TheTapeIsEmptyThen() {
        SmellRace race = Check.race("row oom;");
        Check.same("behind a good text", race.count(8), 0);
        Check.feed(race, "row oom; #");
        Check.same("read", race.read(), 1);
        Check.same("behind a fault", race.count(8), 0);
        Check.same("back", race.back(1), -1);
    }

    // "with blanks (9, 10, 13, 32) between or not"
    static void p04JustFourBytesAreBlanks() {
        for (int sign = 0; sign < 256; sign++) {
            boolean blank = sign == 9 || sign == 10 || sign == 13 || sign == 32;
            boolean token = sign >= 'a' && sign <= 'z' || sign >= '0' && sign <= '9' || ";=+-*/<()".indexOf(sign) >= 0;
            if (!token) {
                Edge.fault("row" + (char) sign + "oo;", blank ? 0 : 1, blank ? -1 : 3);
                Edge.fault((char) sign + "row oo;", blank ? 0 : 1, blank ? -1 : 0);
            }
        }
    }

    static void p04NoBlanksBetween() {
        Edge.good("row oo;boat a1 0 0 0;cold5;seed7;wind=if1<2then(3)*hour/4else5-6+east;");
    }

    static void p04ManyBlanksBetween() {
        Edge.good("\r\nrow\t\t oo \n;\r\n\tboat  a  1  0  0  0  ;  ");
    }

    // "NAMES (letters a .. z, 8 at most ..): A longer one .. is no TOKEN"
    static void p04NamesOfOneToEightLetters() {
        Edge.good("row o;");
        Edge.good("row oooooooo;");
        Edge.fault("row ooooooooo;", 1, 4);
        Edge.good(ROW + "boat a 0 0 0 0;");
        Edge.good(ROW + "boat abcdefgh 0 0 0 0;");
        Edge.fault(ROW + "boat abcdefghi 0 0 0 0;", 1, 14);
        Edge.fault("row " + "o".repeat(1996), 1, 4);
    }

    static void p04LettersFromAToZ() {
        for (char letter = 'a'; letter <= 'z'; letter++) {
            Edge.good(ROW + "boat " + letter + " 0 0 0 0;");
        }
        // the signs just before a and behind z
        Edge.fault(ROW + "boat ` 0 0 0 0;", 1, 14);
        Edge.fault(ROW + "boat { 0 0 0 0;", 1, 14);
        Edge.fault(ROW + "boat A 0 0 0 0;", 1, 14);
        Edge.fault(ROW + "boat aZ 0 0 0 0;", 1, 15);
    }

    // "none of the words in quotes"
    static void p04AWordIsNoName() {
        for (String word : WORDS) {
            Edge.fault(ROW + "boat " + word + " 0 0 0 0;", 1, 14);
            Edge.fault("row " + word + ";", 1, 4);
        }
    }

    static void p04ALetterMoreOrLessIsAName() {
        for (String word : WORDS) {
            Edge.good(ROW + "boat " + word + "a 0 0 0 0;");
            Edge.good(ROW + "boat a" + word + " 0 0 0 0;");
            Edge.good(ROW + "boat " + word.substring(1) + " 0 0 0 0;");
            Edge.good(ROW + "boat " + word.substring(0, word.length() - 1) + " 0 0 0 0;");
        }
    }

    // "TOKENS, the longest that can be"
    static void p04TheLongestToken() {
        Edge.fault("rowoooo;", 1, 0);
        Edge.fault("coldcold 1;", 1, 0);
        Edge.fault("wind = hourhour;", 1, 7);
        Edge.fault("wind = if1<2then3elseif 2<1then4else5;", 1, 17);
        Edge.fault("wind = 123 4;", 1, 11);
    }

    // "INTS (1 to 4 digits)"
    static void p04IntsOfOneToFourDigits() {
        Edge.good("seed 0;");
        Edge.good("seed 9;");
        Edge.good("seed 0000;");
        Edge.good("seed 9999;");
        Edge.good("cold 0099;");
        Edge.fault("seed 10000;", 1, 5);
        Edge.fault("seed 00000;", 1, 5);
        Edge.fault("seed " + "1".repeat(1995), 1, 5);
        // the sign just behind 9; the one just before 0 is /
        Edge.fault("seed 1:;", 1, 6);
        Edge.fault("seed 1/;", 1, 6);
    }

    static void p04EachDigitCounts() {
        for (int n = 0; n <= 9; n++) {
            Check.same("digit " + n, Check.race("wind = if hour < " + n + " then 1 else 0;").wind(n), 1);
            Check.same("digit " + n, Check.race("wind = if hour < " + n + " then 1 else 0;").wind(Math.max(0, n - 1)), n == 0 ? 1 : 2);
        }
        Check.same("four digits", Check.race("wind = 4321 - 4319;").wind(0), 3);
    }

    // "SYNTAX: a TOKEN, or what is none, with which no text goes on."
    static void p04EachTokenBehindEachBeginning() {
        for (String[] rule : GRAMMAR) {
            Set<String> goesOn = Set.of(rule[1].split(" "));
            for (String token : allTokens()) {
                String text = rule[0] + " " + token;
                SmellRace race = new SmellRace();
                Check.feed(race, text);
                int fault = race.read();
                if (goesOn.contains(token)) {
                    Check.holds("goes on: " + text, fault == 0 || race.place() == text.length());
                } else {
                    Check.same("SYNTAX: " + text, fault, 1);
                    Check.same("its place: " + text, race.place(), rule[0].length() + 1);
                }
            }
        }
    }

    static void p04NoTokenBehindEachBeginning() {
        for (String[] rule : GRAMMAR) {
            for (String none : new String[] {"#", "A", "abcdefghi", "12345", "_", ",", ">", "\u00ff", "\0"}) {
                Edge.fault(rule[0] + " " + none, 1, rule[0].length() + 1);
            }
        }
    }

    // "the text's end: its length"
    static void p04ATextThatEndsTooSoon() {
        for (String[] rule : GRAMMAR) {
            for (String blanks : new String[] {"", " ", "\n\t \r"}) {
                String text = rule[0] + blanks;
                boolean ends = Set.of(rule[1].split(" ")).contains(".");
                Edge.fault(text, ends ? 0 : 1, ends ? -1 : text.length());
            }
        }
    }

    // "ROWS, 5 at most": "ROOM: one more of a sort than told (at its first TOKEN)"
    static void p04FiveRows() {
        String rows = "row o; ".repeat(5);
        Edge.good(rows);
        Edge.fault(rows + "row o;", 2, rows.length());
        Edge.fault(rows + "row", 2, rows.length());
        Edge.fault(rows + "seed 1; row #", 2, rows.length() + 8);
    }

    // "BOATS, 6 at most"
    static void p04SixBoats() {
        StringBuilder boats = new StringBuilder(ROW);
        for (int k = 0; k < 6; k++) {
            boats.append("boat ").append((char) ('a' + k)).append(" 0 0 0 0; ");
        }
        Edge.good(boats.toString());
        Edge.fault(boats + "boat g 0 0 0 0;", 2, boats.length());
        Edge.fault(boats + "boat a 0 0 0 0;", 2, boats.length());
        Edge.fault(boats + "boat", 2, boats.length());
        Edge.fault(boats + "cold 1; boat 1", 2, boats.length() + 8);
    }

    static void p04LawsColdsAndSeedsAsManyAsOneLikes() {
        Edge.good("wind = 1; steers = 1; lies = 1; cold 1; seed 1;".repeat(22));
    }

    // "a 5th if of a LAW (at it)"
    static void p04FourIfsOfALaw() {
        String ifs = "if 1 < 0 then 2 else ".repeat(4);
        for (String law : new String[] {"wind", "steers", "lies"}) {
            String text = law + " = " + ifs;
            Edge.good(text + "3;");
            Edge.fault(text + "if 1 < 0 then 2 else 3;", 2, text.length());
            Edge.fault(text + "if", 2, text.length());
            Edge.fault(text + "if #", 2, text.length());
        }
        Edge.good("wind = " + ifs + "3; wind = " + ifs + "3; lies = " + ifs + "3; steers = " + ifs + "3;");
    }

    // "a 7th ( within one another (at it)"
    static void p04SixOpenOnes() {
        Edge.good("wind = ((((((1))))));");
        Edge.fault("wind = (((((((1)))))));", 2, 13);
        Edge.fault("wind = (((((((", 2, 13);
        Edge.fault("wind = (((((((#", 2, 13);
        Edge.fault("wind = ((((((1+1*(2", 2, 17);
    }

    static void p04OpenOnesBesideOneAnother() {
        Edge.good("wind = (1)+(1)+(1)+(1)+(1)+(1)+(1)+(1);");
        Edge.good("wind = ((((((1))))))*((((((2))))));");
        Edge.good("wind = (((((1)+(2)+(3))+(4))+(5))+(6)+((7)));");
        Edge.fault("wind = ((((((1)+(2)))))-((((((3)))))));", 2, 29);
    }

    static void p04OpenOnesInEachPieceOfALaw() {
        String six = "((((((1))))))";
        String seven = "(((((((1)))))))";
        Edge.good("lies = if " + six + " < " + six + " then " + six + " else " + six + ";");
        Edge.fault("lies = if " + seven, 2, 16);
        Edge.fault("lies = if 1 < " + seven, 2, 20);
        Edge.fault("lies = if 1 < 1 then " + seven, 2, 27);
        Edge.fault("lies = if 1 < 1 then 1 else " + seven, 2, 34);
    }

    // "a 401st TOKEN"
    static void p04FourHundredTokens() {
        String most = "wind=1" + "+1".repeat(198) + ";";
        Edge.good(most);
        Edge.good(most + "\n");
        Edge.good("wind=1" + "+1".repeat(195) + ";" + "seed 1;cold 1;");
        Edge.fault(most + "seed 1;", 2, most.length());
        Edge.fault("wind=1" + "+1".repeat(199) + ";", 2, 5 + 2 * 199);
    }

    static void p04The401stTokenOfEachSort() {
        String most = "wind=1" + "+1".repeat(198) + ";";
        for (String token : allTokens()) {
            boolean begins = Set.of("row", "boat", "wind", "steers", "lies", "cold", "seed").contains(token);
            Edge.fault(most + " " + token, begins ? 2 : 1, most.length() + 1);
        }
        String open = "wind=1" + "+1".repeat(197) + "+(1";
        for (String token : allTokens()) {
            Edge.fault(open + " " + token, Set.of("+", "-", "*", "/", ")").contains(token) ? 2 : 1, open.length() + 1);
        }
        String sum = "wind=(1)" + "+1".repeat(197) + "+";
        for (String token : allTokens()) {
            Edge.fault(sum + " " + token, Set.of(UNITS.split(" ")).contains(token) ? 2 : 1, sum.length() + 1);
        }
    }

    static void p04WhatIsNoTokenAsThe401st() {
        String most = "wind=1" + "+1".repeat(198) + ";";
        Edge.fault(most + "#", 1, most.length());
        Edge.fault(most + "coldcoldcold", 1, most.length());
    }

    static void p04FourHundredTokensThatEndTooSoon() {
        String open = "wind=1" + "+1".repeat(198) + "+";
        Edge.fault(open, 1, open.length());
        Edge.fault(open + "  ", 1, open.length() + 2);
    }

    // "the first by its place (..), of one place the least"
    static void p04TheFirstByItsPlace() {
        String six = "row o;".repeat(6);
        Edge.fault(six + " #", 2, 30);
        Edge.fault("#" + six, 1, 0);
        Edge.fault("row o; row " + six, 1, 11);
        Edge.fault("wind = (((((((1; #", 2, 13);
        Edge.fault("wind = 1 1 (((((((1;", 1, 9);
    }

    // "If there is none, likewise": SYNTAX and ROOM stand before all others
    static void p04SyntaxAndRoomBeforeTheOthers() {
        Edge.fault("row x; #", 1, 7);
        Edge.fault("cold 101; #", 1, 10);
        Edge.fault(ROW + "boat a 0 0 0 0; boat a 0 0 0 0; #", 1, 41);
        Edge.fault("boat a 0 0 0 0; #", 1, 16);
        Edge.fault("row x;" + "row o;".repeat(5), 2, 30);
        Edge.fault("cold 101; wind = (((((((1)))))));", 2, 23);
    }

    static void p04OfTheOthersTheFirstByItsPlace() {
        Edge.fault(ROW + "boat a 0 0 0 0; boat a 0 0 10 0; row x;", 3, 30);
        Edge.fault(ROW + "boat a 0 0 10 0; boat a 0 0 0 0; row x;", 5, 20);
        Edge.fault("row x; " + "boat a 0 0 10 0; boat a 0 0 0 0;", 6, 4);
        Edge.fault("boat a 9 9 0 0; boat b 0 0 0 0; cold 101; ", 5, 37);
        Edge.fault("boat a 9 9 0 0; boat b 0 0 0 0; row x; ", 6, 36);
        Edge.fault("boat a 9 9 0 0; boat a 0 0 0 0; ", 3, 21);
        Edge.fault(ROW + "boat a 10 11 12 13; ", 5, 16);
    }

    // "TWICE: a NAME of a BOAT told already."
    static void p04ABoatToldTwice() {
        Edge.fault(ROW + "boat a 0 0 0 0;boat a 0 0 0 0;", 3, 29);
        Edge.fault(ROW + "boat a 0 0 0 0;boat b 0 0 0 0;boat a 1 0 0 0;", 3, 44);
        Edge.fault(ROW + "boat abcdefgh 0 0 0 0;boat abcdefgh 1 0 0 0;", 3, 36);
        Edge.fault(ROW + "boat zzzzzzzz 0 0 0 0;boat zzzzzzzz 1 0 0 0;", 3, 36);
    }

    static void p04NamesThatDifferJustSo() {
        Edge.good(ROW + "boat a 0 0 0 0;boat aa 0 0 0 0;boat b 0 0 0 0;boat ba 0 0 0 0;boat ab 0 0 0 0;boat bb 0 0 0 0;");
        Edge.good(ROW + "boat abcdefgh 0 0 0 0;boat abcdefgi 0 0 0 0;boat bbcdefgh 0 0 0 0;boat abcdefg 0 0 0 0;");
        Edge.good("row oo; boat oo 0 0 0 0;");
    }

    // "WRONG (at the INT): a number not as told above."
    static void p04NumbersOfABoat() {
        for (int i = 0; i < 4; i++) {
            String[] numbers = {"0", "0", "0", "0"};
            for (int n : new int[] {0, 9, 10, 99, 9999}) {
                numbers[i] = "" + n;
                String text = "row oooooooo; boat a " + String.join(" ", numbers) + ";";
                boolean beyond = i < 2 && n == 9;
                Edge.fault(text, n > 9 ? 5 : beyond ? 6 : 0, n > 9 ? 21 + 2 * i : beyond ? text.length() : -1);
            }
        }
    }

    static void p04Colds() {
        Edge.good("cold 0;");
        Edge.good("cold 100;");
        Edge.fault("cold 101;", 5, 5);
        Edge.fault("cold 9999;", 5, 5);
        Edge.fault("cold 101; cold 100;", 5, 5);
        Edge.fault("cold 100; cold 101;", 5, 15);
    }

    static void p04Seeds() {
        Edge.good("seed 0;");
        Edge.good("seed 9999;");
        Edge.good("seed 101;");
    }

    static void p04NumbersOfALaw() {
        Edge.good("wind = 9999 * 9999; steers = 9999; lies = 9999;");
    }

    // "BAY: (at it) a ROW with a letter that is none of these, or not as long as the first one"
    static void p04LettersOfARow() {
        for (char letter = 'a'; letter <= 'z'; letter++) {
            boolean cell = letter == 'o' || letter == 'r' || letter == 'm';
            for (String row : new String[] {letter + "oo", "o" + letter + "o", "oo" + letter}) {
                if (!Set.of(WORDS).contains(row)) {
                    Edge.fault("row ooo; row " + row + ";", cell ? 0 : 6, cell ? -1 : 13);
                    Edge.fault("row " + row + ";", cell ? 0 : 6, cell ? -1 : 4);
                }
            }
        }
    }

    static void p04LengthsOfRows() {
        for (int first = 1; first <= 8; first++) {
            for (int next = 1; next <= 8; next++) {
                String text = "row " + "o".repeat(first) + "; row " + "o".repeat(next) + ";";
                Edge.fault(text, first == next ? 0 : 6, first == next ? -1 : first + 10);
            }
        }
        Edge.fault("row oo; row oo; row oo; row oo; row o;", 6, 36);
        Edge.fault("row oo; row o; row o;", 6, 12);
    }

    static void p04ABadFirstRowCountsItself() {
        Edge.fault("row xx; row ooo;", 6, 4);
    }

    // "(at the text's end) a BOAT that is not on water or the mark"
    static void p04ABoatOnWaterOrTheMark() {
        Edge.good("row om; boat a 0 0 0 0; boat b 1 0 0 0;");
    }

    static void p04ABoatOnARock() {
        Edge.fault("row or; boat a 1 0 0 0;", 6, 23);
        Edge.fault("row or; boat a 1 0 0 0; \n", 6, 25);
        Edge.fault("row or; boat b 0 0 0 0; boat a 1 0 0 0;", 6, 39);
        Edge.fault("row or; boat a 1 0 0 0; boat b 0 0 0 0;", 6, 39);
    }

    static void p04ABoatBeyondTheBay() {
        Edge.good("row oo; row oo; boat a 1 1 0 0;");
        Edge.fault("row oo; row oo; boat a 2 1 0 0;", 6, 31);
        Edge.fault("row oo; row oo; boat a 1 2 0 0;", 6, 31);
        Edge.fault("boat a 0 0 0 0;", 6, 15);
        String bay = "row oooooooo;".repeat(5);
        Edge.good(bay + "boat a 7 4 0 0;");
        Edge.fault(bay + "boat a 8 4 0 0;", 6, bay.length() + 15);
        Edge.fault(bay + "boat a 7 5 0 0;", 6, bay.length() + 15);
        Edge.fault(bay + "boat a 9 9 0 0;", 6, bay.length() + 15);
        // 8, 0 is not 0, 1
        Edge.fault(bay + "boat a 8 0 0 0;", 6, bay.length() + 15);
    }

    static void p04BoatsAheadOfTheRows() {
        Edge.good("boat a 1 1 0 0; row ro; row ro;");
        Edge.fault("boat a 0 1 0 0; row ro; row ro;", 6, 31);
    }

    // "A text with a FAULT changes nothing but the tape"
    static void p04AFaultChangesNothing() {
        String[] faulty = {"row oo; boat b 0 0 0 0; #", "row o;".repeat(6), "row oo; boat b 0 0 0 0; boat b 0 0 0 0;",
            "seed 7; cold 100; wind = 2; steers = 3; lies = 9; row oo; boat b 10 0 0 0;", "row mm; row m;", "row or; boat b 1 0 0 0;"};
        int[] numbers = {1, 2, 3, 5, 6, 6};
        for (int i = 0; i < faulty.length; i++) {
            SmellRace race = Check.race("row oooom; boat a 0 0 1 1; boat b 1 0 1 1; cold 20; seed 3; lies = 2;");
            race.hours(1);
            race.pan(1, false);
            race.tell(0, 1);
            race.hold(2);
            String before = Edge.all(race);
            Check.feed(race, faulty[i]);
            Check.same("read of " + faulty[i], race.read(), numbers[i]);
            Check.same("the tape is empty", race.count(8), 0);
            String behind = Edge.all(race);
            int place = race.place();
            Check.same("all but the place", behind.replace(" " + place + "|", " -1|").equals(before) ? 1 : 0, 1);
            Check.holds("undo", race.undo());
            Check.holds("restore", race.restore(2));
            Check.same("pans as held", race.count(6), 1);
        }
    }

    // "else it is in place of the one ahead: hour 0, BOATS as told, all pans on, no smells yet but those of now, ..."
    static void p04AGoodTextIsInPlaceOfTheOneAhead() {
        String text = "row oom; row ooo; boat c 0 1 0 0; boat d 2 0 0 0;";
        SmellRace race = Check.race("row oooom; boat a 0 0 3 9; boat b 1 0 1 9; lies = 9; wind = 2; steers = 0; cold 100; seed 5;");
        race.hours(7);
        race.pan(0, false);
        race.go(1, 1);
        race.tell(0, 1);
        race.hold(0);
        race.hold(1);
        race.hold(2);
        Check.feed(race, text);
        Check.same("read", race.read(), 0);
        Check.holds("as on a new object", Edge.all(race).equals(Edge.all(Check.race(text))));
        Check.fails("undo", race.undo());
        for (int slot = 0; slot < 3; slot++) {
            Check.fails("restore(" + slot + ")", race.restore(slot));
        }
    }

    // whatever was read ahead of it, with a fault or without, nothing of that stays
    static void p04ATextBehindOtherTexts() {
        String[] texts = {
            "row oooom; row ooooo; boat a 0 0 3 9; boat b 1 0 1 9; boat c 1 1 1 2; lies = 9; wind = 2; steers = 3; cold 100; seed 5;",
            "row oor; boat d 0 0 0 0; steers = if hour < 3 then 0 else 1 + east * 2; cold 30; seed 77;",
            "row oo; boat a 0 0 0 0; boat b 0 0 0 0;", "row oo; boat a 0 0 0 0; boat b 0 0 0 0; cold 50; steers = 0;", "",
            "row ooo; boat a 0 0 0 0; wind = 1; steers = 4; lies = 7; cold 9; #", "row o;".repeat(6),
            "row oo; boat b 0 0 0 0; boat b 0 0 0 0;", "row oo; boat b 10 0 0 0; cold 77; seed 6; lies = 5;", "row mm; row m;",
            "row or; boat b 1 0 0 0; wind = 3;"};
        int good = 5;
        for (String first : texts) {
            for (String second : texts) {
                for (int i = 0; i < good; i++) {
                    SmellRace race = new SmellRace();
                    Check.feed(race, first);
                    race.read();
                    Check.feed(race, second);
                    race.read();
                    Check.feed(race, texts[i]);
                    Check.same("read of " + texts[i], race.read(), 0);
                    SmellRace due = Check.race(texts[i]);
                    for (int hour = 0; hour < 6; hour++) {
                        Check.holds("as on a new object: " + texts[i] + " behind " + first + " and " + second, Edge.all(race).equals(Edge.all(due)));
                        race.hours(1);
                        due.hours(1);
                    }
                }
            }
        }
    }

    static void p04OnesOnTheMarkAreHome() {
        SmellRace race = Check.race("row mom; boat a 1 0 0 0; boat b 2 0 1 0; boat c 0 0 1 0;");
        Check.same("a", race.boat(0, 2), -2);
        Check.same("b is the first", race.boat(1, 2), 1);
        Check.same("c is the next", race.boat(2, 2), 2);
        Check.same("they lay nothing", race.laid(2, 0, 1, false), -2);
        Check.same("pans are on all the same", race.count(6), 7);
    }

    // "LAWS: WIND (0), STEERS (1), LIES (1), if not told; the last one. COLD 0 .. 100 (0), SEED 0 .. 9999 (0): the last one."
    static void p04WhatIsNotTold() {
        SmellRace race = Check.race("row ooo; boat a 1 0 1 0;");
        for (int hour : new int[] {0, 1, 999}) {
            Check.same("wind(" + hour + ")", race.wind(hour), 1);
        }
        Check.same("steers", race.steers(0), 1);
        Check.same("lies", race.laid(2, 0, 0, true), 1);
        Check.same("cold", race.boat(0, 6), 0);
        String colds = "row o; boat a 0 0 0 0; steers = 0; cold 50;";
        SmellRace none = Check.race(colds);
        SmellRace zero = Check.race(colds + "seed 0;");
        for (int hour = 0; hour < 20; hour++) {
            Check.same("seed 0", none.boat(0, 6), zero.boat(0, 6));
            none.hours(1);
            zero.hours(1);
        }
    }

    static void p04TheLastOneCounts() {
        SmellRace race = Check.race("wind = 3; wind = 1; steers = 1; steers = 4; lies = 9; lies = 5; row ooo; boat a 1 0 1 0;");
        Check.same("wind", race.wind(0), 2);
        Check.same("steers", race.steers(0), 4);
        Check.same("lies", race.laid(1, 0, 0, true), 5);
        Check.same("cold", Check.race("row o; boat a 0 0 0 0; cold 0; cold 100;").boat(0, 6), 1);
        Check.same("cold", Check.race("row o; boat a 0 0 0 0; cold 100; cold 0;").boat(0, 6), 0);
        Check.same("a shorter law behind a longer one",
            Check.race("wind = if hour < 5 then 1 + 1 else 1 + 2 * 3; wind = 3;").wind(9), 4);
        SmellRace last = Check.race("row o; boat a 0 0 0 0; steers = 0; cold 50; seed 77; seed 1234;");
        SmellRace due = Check.race("row o; boat a 0 0 0 0; steers = 0; cold 50; seed 1234;");
        for (int hour = 0; hour < 20; hour++) {
            Check.same("seed", last.boat(0, 6), due.boat(0, 6));
            last.hours(1);
            due.hours(1);
        }
    }
}

/** Promises 30 to 34: tell, forget, fried, sure, rock. */
public final class KnowTest {
    public static void main(String[] args) {
        telling();
        friedAndSure();
        toldStays();
        rocks();
        rocksByBoats();
        Check.end("KnowTest");
    }

    private static void telling() {
        SmellRace race = Check.race("row ooo; boat a 0 0 2 9; boat b 1 0 1 9; boat c 2 0 0 9; steers = 0;");
        Check.same("no such boat", race.tell(3, 0), -1);
        Check.same("no such boat", race.tell(-1, 0), -1);
        Check.same("no such pan", race.tell(0, 3), -1);
        Check.same("no such pan", race.tell(0, -1), -1);
        Check.same("none told", race.count(10), 0);
        for (int i = 0; i < 20; i++) {
            Check.same("told " + i, race.tell(2, i % 3), i);
        }
        Check.same("20 are there", race.tell(2, 0), -1);
        Check.same("20", race.count(10), 20);
        Check.same("forget", race.forget(), 20);
        Check.same("forget nothing", race.forget(), 0);
        Check.same("from 0 on", race.tell(2, 0), 0);
    }

    private static void friedAndSure() {
        // b smells a; c smells a, b; a smells none
        SmellRace race = Check.race("row ooo; boat a 0 0 2 9; boat b 1 0 1 9; boat c 2 0 0 9; steers = 0;");
        Check.same("6 ways", race.fried(0), 6);
        Check.same("nothing sure", race.sure(0, 1), -2);
        race.tell(2, 1);
        Check.same("pan 1 is of a or b", race.fried(1), 4);
        Check.same("not sure", race.sure(1, 1), -2);
        race.tell(2, 0);
        Check.same("pans 0, 1 are of a, b", race.fried(2), 2);
        Check.same("so pan 2 is of c", race.sure(2, 2), 2);
        Check.same("not by the first", race.sure(1, 2), -2);
        race.tell(1, 0);
        Check.same("one way", race.fried(3), 1);
        Check.same("pan 0", race.sure(3, 0), 0);
        Check.same("pan 1", race.sure(3, 1), 1);
        Check.same("pan 2", race.sure(3, 2), 2);
        race.tell(1, 2);
        Check.same("no way", race.fried(4), 0);
        Check.same("no way is left", race.sure(4, 0), -2);
        Check.same("still one by 3", race.fried(3), 1);
        Check.same("no such k", race.fried(5), -1);
        Check.same("no such k", race.fried(-1), -1);
        Check.same("no such k", race.sure(5, 0), -1);
        Check.same("no such k", race.sure(-1, 0), -1);
        Check.same("no such pan", race.sure(0, 3), -1);
        Check.same("no such pan", race.sure(0, -1), -1);
        race.forget();
        race.tell(0, 0);
        Check.same("a smelled none", race.fried(1), 0);
        race = Check.race("row o; boat a 0 0 0 0; boat b 0 0 0 0; boat c 0 0 0 0; boat d 0 0 0 0; boat e 0 0 0 0; boat f 0 0 0 0;");
        Check.same("720 ways", race.fried(0), 720);
        race.tell(5, 3);
        Check.same("pan 3 is not of f", race.fried(1), 600);
        race = Check.race("row o; boat a 0 0 0 0;");
        Check.same("one boat", race.sure(0, 0), 0);
        Check.same("no boats: one way", new SmellRace().fried(0), 1);
        Check.same("no boats: no pan", new SmellRace().sure(0, 0), -1);
    }

    private static void toldStays() {
        SmellRace race = Check.race("row oooo; boat a 0 0 3 9; boat b 1 0 0 9; steers = 0; lies = 0;");
        race.pan(0, false);
        race.hold(0);
        race.tell(1, 1);
        race.hours(1);
        Check.same("b smells none now", race.boat(1, 5), 0);
        Check.same("what it smelled as it was told", race.sure(1, 1), 0);
        race.undo();
        race.undo();
        race.restore(0);
        Check.same("it is no thing done, nor held", race.count(10), 1);
        race.hours(1);
        race.tell(1, 1);
        Check.same("by two", race.fried(2), 0);
    }

    private static void rocks() {
        SmellRace race = Check.race("row oooom; row ooooo; boat a 0 0 0 0; boat b 4 1 0 0;");
        Check.same("a is lost on 1, 2, 3", race.rock(4, 1, -1), 3);
        Check.same("1", race.rock(4, 1, 0), 1);
        Check.same("2", race.rock(4, 1, 1), 2);
        Check.same("3", race.rock(4, 1, 2), 3);
        Check.same("not so many", race.rock(4, 1, 3), -1);
        Check.same("in 1 hour", race.rock(1, 1, -1), 1);
        Check.same("none is lost: row 1 but b's own", race.rock(4, 0, -1), 4);
        Check.same("8 to the row", race.rock(4, 0, 0), 8);
        Check.same("the last", race.rock(4, 0, 3), 11);
        Check.same("b alone", race.rock(4, 2, -1), 0);
        Check.same("both", race.rock(4, 3, -1), 0);
        Check.same("set 4", race.rock(4, 4, -1), -1);
        Check.same("set -1", race.rock(4, -1, -1), -1);
        Check.same("n 0", race.rock(0, 1, -1), -1);
        Check.same("n 61", race.rock(61, 1, -1), -1);
        Check.same("n 60", race.rock(60, 1, -1), 3);
        Check.same("i -2", race.rock(4, 1, -2), -1);
        // by the text, whatever was done by hand
        race.hours(3);
        race.go(1, 3);
        race.pan(0, false);
        Check.same("from the text on", race.rock(4, 1, -1), 3);
        Check.same("b's cell by the text", race.rock(4, 0, 3), 11);
        Check.same("the bay is as it was", race.count(12), 9);
        Check.same("no boats", new SmellRace().rock(1, 0, -1), 0);
        Check.same("no boats, set 1", new SmellRace().rock(1, 1, -1), -1);
    }

    private static void rocksByBoats() {
        // a rock between them keeps a's smell from b, which then goes on
        SmellRace race = Check.race("row ooor; boat a 0 0 2 9; boat b 2 0 0 9; steers = if which < 1 then 0 else 1 - smells;");
        Check.same("b stays by what it smells", race.many(60, true), 0);
        Check.same("b is lost if a rock is between", race.rock(1, 2, -1), 1);
        Check.same("where", race.rock(1, 2, 0), 1);
        Check.same("no other cell", race.rock(1, 0, -1), 0);
        // a lost one by the text's own rock
        race = Check.race("row oro; row ooo; boat a 0 0 0 0;");
        Check.same("a is lost whatever more there is", race.rock(1, 1, -1), 4);
        race = Check.race("row om; boat a 1 0 0 0;");
        Check.same("home is not lost", race.rock(5, 0, -1), 1);
        Check.same("the mark is no water", race.rock(5, 0, 0), 0);
    }
}

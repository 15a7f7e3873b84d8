/** Promises 1 to 3: a new object, the tape, texts and their faults. */
public final class ReadingTest {
    private static final Check CHECK = new Check();
    private static final String TWO = "dock a;dock b;";

    public static void main(String[] args) {
        newObject();
        feeding();
        texts();
        whatATextLeavesBehind();
        misplaced();
        toldTwice();
        wrongNumbers();
        wrongDocks();
        tooMany();
        leastPlace();
        CHECK.end("ReadingTest");
    }

    private static void newObject() {
        PivotDocks x = new PivotDocks();
        int[] counts = {0, 0, 4, 0, 0, 0, 0, 0, 1, 0, 0};
        for (int what = 0; what < counts.length; what++) {
            CHECK.due("new: count(" + what + ")", x.count(what), counts[what]);
        }
        CHECK.due("new: anew()", x.anew(), 0);
        CHECK.due("new: anew() is an act", x.count(6), 1);
        CHECK.due("new: block(7)", x.block(7), 4);
    }

    private static void feeding() {
        PivotDocks x = new PivotDocks();
        for (int k = 1; k <= 30; k++) {
            CHECK.due("feed " + k, x.feed(0x20202020, 0x0a0a0a0a, 0x20202020, 0x20202020, 0x20202020), 20 * k);
        }
        CHECK.due("feed 31", x.feed(0, 0, 0, 0, 0), -1);
        CHECK.due("count(7) of a tape that is full", x.count(7), 600);
        CHECK.due("text(601)", x.text(601), -1);
        CHECK.due("text(-1)", x.text(-1), -1);
        CHECK.due("text(MIN)", x.text(Integer.MIN_VALUE), -1);
        CHECK.due("text(MAX)", x.text(Integer.MAX_VALUE), -1);
        CHECK.due("count(7) as it was", x.count(7), 600);
        CHECK.due("text(600) of blanks", x.text(600), 0);
        CHECK.due("count(7) of an empty tape", x.count(7), 0);
        CHECK.due("the highest byte first", x.feed(0x646f636b, 0x20613b00, 0, 0, 0), 20);
        CHECK.due("the highest byte first: text(7)", x.text(7), 1);
    }

    private static void texts() {
        CHECK.due("empty", Check.tell(new PivotDocks(), ""), 0);
        CHECK.due("without blanks", Check.tell(new PivotDocks(), "dock a gives5;dock b takes0005;route e a b costs0holds999;block24;"), 2);
        CHECK.due("with blanks", Check.tell(new PivotDocks(), "\n dock \n a ;\n\n block   1  ; "), 1);
        PivotDocks x = Check.told("dock abcdef gives 999;dock b takes 999;dock c;dock d takes 0;"
            + "route e b abcdef costs 999 holds 1;block 7;route f abcdef b costs 0 holds 999;");
        int[] gifts = {999, -999, 0, 0};
        for (int d = 0; d < 4; d++) {
            CHECK.due("gift of " + d, x.dock(d, 0), gifts[d]);
            CHECK.due("tender's end of " + d, x.way(2 + d, 1), d == 1 ? 1 : -1);
        }
        CHECK.due("block 7", x.count(2), 7);
        CHECK.due("e begins", x.way(0, 0), 1);
        CHECK.due("e ends", x.way(0, 1), 0);
        CHECK.due("e costs", x.way(0, 2), 999);
        CHECK.due("e holds", x.way(0, 3), 1);
        CHECK.due("f costs", x.way(1, 2), 0);
        CHECK.due("f holds", x.way(1, 3), 999);
        StringBuilder most = new StringBuilder();
        for (char d = 'a'; d < 'i'; d++) {
            most.append("dock ").append(d).append(";");
        }
        for (char r = 'a'; r < 'q'; r++) {
            most.append("route r").append(r).append(" a b costs1holds1;");
        }
        x = new PivotDocks();
        CHECK.due("as many as can be", Check.tell(x, most.toString()), 8);
        CHECK.due("as many routes as can be", x.count(1), 16);
        CHECK.due("the last way", x.way(23, 0), 7);
        x = new PivotDocks();
        Check.feed(x, "dock a;dock b;");
        CHECK.due("the first bytes alone", x.text(7), 1);
        CHECK.due("the tape is empty then", x.count(7), 0);
        Check.feed(x, "dock abc;");
        CHECK.due("cut within a word", x.text(6), Check.fault(6, 1));
        Check.feed(x, "block 24;");
        CHECK.due("cut within a number", x.text(7), Check.fault(7, 1));
        Check.feed(x, "block 24;");
        CHECK.due("cut ahead of the stop", x.text(8), Check.fault(8, 1));
        x = new PivotDocks();
        for (int k = 0; k < 29; k++) {
            Check.feed(x, "                    ");
        }
        Check.feed(x, "             block 7");
        CHECK.due("a full tape that ends in a token", x.text(600), Check.fault(600, 1));
        for (int k = 0; k < 30; k++) {
            Check.feed(x, "abcdefghijklmnopqrst");
        }
        CHECK.due("a full tape of letters", x.text(600), Check.fault(0, 1));
        for (int k = 0; k < 30; k++) {
            Check.feed(x, "12345678901234567890");
        }
        CHECK.due("a full tape of digits", x.text(600), Check.fault(0, 1));
    }

    private static void whatATextLeavesBehind() {
        PivotDocks x = Check.told("dock a gives 1;dock b takes 1;route r a b costs 1 holds 1;block 3;");
        x.step();
        x.block(5);
        x.keep(1, false);
        CHECK.due("a text with a fault", Check.tell(x, "dock a;block 0;"), Check.fault(13, 3));
        CHECK.due("it empties the tape", x.count(7), 0);
        CHECK.due("docks stay", x.count(0), 2);
        CHECK.due("block stays", x.count(2), 5);
        CHECK.due("pivots stay", x.count(5), 1);
        CHECK.due("acts stay", x.count(6), 2);
        CHECK.due("the keep stays", x.keep(1, true), true);
        x.anew();
        CHECK.due("another text", Check.tell(x, "dock z;"), 1);
        CHECK.due("no routes", x.count(1), 0);
        CHECK.due("block without", x.count(2), 4);
        CHECK.due("no pivots", x.count(5), 0);
        CHECK.due("no log", x.count(4), 0);
        CHECK.due("nothing can be undone", x.undo(), -1);
        CHECK.due("nothing is kept", x.keep(1, true), false);
        x.keep(0, false);
        CHECK.due("an empty text", x.text(0), 0);
        CHECK.due("an empty text: nothing is kept", x.keep(0, true), false);
        CHECK.due("an empty text: no docks", x.count(0), 0);
    }

    private static void fault(String text, int place, int kind) {
        PivotDocks x = new PivotDocks();
        CHECK.due("\"" + text + "\"", Check.tell(x, text), Check.fault(place, kind));
        CHECK.due("\"" + text + "\" count(0)", x.count(0), 0);
    }

    private static void misplaced() {
        fault(";", 0, 1);
        fault("a;", 0, 1);
        fault("7;", 0, 1);
        fault("gives 1;", 0, 1);
        fault("Dock a;", 0, 1);
        fault("dock\ta;", 4, 1);
        fault("dock \0a;", 5, 1);
        fault("dock " + (char) 233 + ";", 5, 1);
        fault("dock abcdefg;", 5, 1);
        fault("dock a gives 00001;", 13, 1);
        fault("dock a gives 1", 14, 1);
        fault("dock a gives 1  ", 16, 1);
        fault("dock", 4, 1);
        fault("dock ;", 5, 1);
        fault("dock 1;", 5, 1);
        fault("dock a b;", 7, 1);
        fault("dock a gives;", 12, 1);
        fault("dock a gives b;", 13, 1);
        fault("dock a gives 1 takes 1;", 15, 1);
        fault("dock a1;", 6, 1);
        for (String word : new String[] {"dock", "gives", "takes", "route", "costs", "holds", "block"}) {
            fault("dock " + word + ";", 5, 1);
            fault(TWO + "route " + word + ";", 20, 1);
            fault(TWO + "route e " + word + ";", 22, 1);
            fault(TWO + "route e a " + word + ";", 24, 1);
        }
        fault(TWO + "route e a b;", 25, 1);
        fault(TWO + "route e a b holds 1 costs 1;", 26, 1);
        fault(TWO + "route e a b costs holds 1;", 32, 1);
        fault(TWO + "route e a b costs 1;", 33, 1);
        fault(TWO + "route e a b costs 1 holds;", 39, 1);
        fault(TWO + "route e a b costs 1 holds 1", 41, 1);
        fault("block;", 5, 1);
        fault("block x;", 6, 1);
        fault("block 1 2;", 8, 1);
    }

    private static void toldTwice() {
        fault("dock a;dock a;", 12, 2);
        fault(TWO + "route a a b costs 1 holds 1;", 20, 2);
        fault(TWO + "route e a b costs 1 holds 1;route e a b costs 1 holds 1;", 48, 2);
        fault(TWO + "route e a b costs 1 holds 1;dock e;", 47, 2);
        fault("block 1;dock a;block 2;", 15, 2);
        fault("block 4;block", 8, 2);
    }

    private static void wrongNumbers() {
        fault("dock a gives 1000;", 13, 3);
        fault("dock a takes 9999;", 13, 3);
        fault(TWO + "route e a b costs 1000 holds 1;", 32, 3);
        fault(TWO + "route e a b costs 1 holds 0;", 40, 3);
        fault(TWO + "route e a b costs 1 holds 1000;", 40, 3);
        fault("block 0;", 6, 3);
        fault("block 25;", 6, 3);
    }

    private static void wrongDocks() {
        fault("route e a b costs 1 holds 1;dock a;dock b;", 8, 4);
        fault(TWO + "route e a c costs 1 holds 1;", 24, 4);
        fault(TWO + "route e a a costs 1 holds 1;", 24, 4);
        fault(TWO + "route e e b costs 1 holds 1;", 22, 4);
        fault(TWO + "route e a b costs 1 holds 1;route f a e costs 1 holds 1;", 52, 4);
    }

    private static void tooMany() {
        StringBuilder docks = new StringBuilder();
        for (char d = 'a'; d < 'i'; d++) {
            docks.append("dock ").append(d).append(";");
        }
        fault(docks + "dock i;", 56, 5);
        fault(docks + " dock", 57, 5);
        StringBuilder routes = new StringBuilder(TWO);
        for (char r = 'a'; r < 'q'; r++) {
            routes.append("route r").append(r).append(" a b costs 1 holds 1;");
        }
        fault(routes + "route z a b costs 1 holds 1;", 14 + 16 * 29, 5);
    }

    private static void leastPlace() {
        fault("dock a gives 1000 ?", 13, 3);
        fault("dock a ? gives 1000;", 7, 1);
        fault("dock a;dock a gives 1000;block 0;", 12, 2);
    }
}

/** The edges that "==== 1." of the document and promises 1 to 3 name, each sentence by itself. */
public final class TapeEdgesTest {
    private static final Check CHECK = new Check();
    private static final int MIN = Integer.MIN_VALUE;
    private static final int MAX = Integer.MAX_VALUE;
    private static final String TWO = "dock a;dock b;";
    private static final String[] KEYWORDS = {"dock", "gives", "takes", "route", "costs", "holds", "block"};

    public static void main(String[] args) {
        tapeHas600();
        blanks();
        words();
        numbers();
        stopAlone();
        allElse();
        linesAndStops();
        gifts();
        atMost8Docks();
        routeNumbers();
        routeEnds();
        atMost16Routes();
        blockNumber();
        numberedAsTold();
        namesButKeywords();
        namesUnlike();
        dockToldAhead();
        giftOfADock();
        leastPlace();
        firstOfTheList();
        beginsNoToken();
        theEndOfTheText();
        toldAgain();
        numbersThatCantBe();
        namesAskedFor();
        oneTooMany();
        newObject();
        twentyBytes();
        fullTape();
        firstBytes();
        howManyDocks();
        afterAText();
        lessAfterMuch();
        notSoMany();
        faultsLeaveAllElse();
        CHECK.end("TapeEdgesTest");
    }

    private static void told(String text, int docks) {
        CHECK.due("\"" + text + "\"", Check.tell(new PivotDocks(), text), docks);
    }

    private static void fault(String text, int place, int kind) {
        CHECK.due("\"" + text + "\"", Check.tell(new PivotDocks(), text), Check.fault(place, kind));
    }

    private static String docks(int n) {
        StringBuilder text = new StringBuilder();
        for (int d = 0; d < n; d++) {
            text.append("dock ").append((char) ('a' + d)).append(';');
        }
        return text.toString();
    }

    private static String routes(int n) {
        StringBuilder text = new StringBuilder(TWO);
        for (int r = 0; r < n; r++) {
            text.append("route r").append((char) ('a' + r)).append(" a b costs 1 holds 1;");
        }
        return text.toString();
    }

    private static String blanks(int n) {
        StringBuilder text = new StringBuilder();
        while (text.length() < n) {
            text.append(' ');
        }
        return text.toString();
    }

    // ---- the tape and its tokens

    private static void tapeHas600() {
        CHECK.sentence("THE TAPE has 600 bytes.");
        PivotDocks x = new PivotDocks();
        for (int k = 1; k <= 30; k++) {
            CHECK.due("feed " + k, x.feed(0x20202020, 0x20202020, 0x20202020, 0x20202020, 0x20202020), 20 * k);
        }
        CHECK.due("feed 31", x.feed(0, 0, 0, 0, 0), -1);
        told(blanks(593) + "dock a;", 1);
        fault(blanks(594) + "dock a", 600, 1);
    }

    private static void blanks() {
        CHECK.sentence("Blanks, 32, 10, part TOKENS and mean nothing else");
        told("dock\na\n;", 1);
        told(" dock a ; ", 1);
        told("\n\n \ndock \n\n a\n  ;\n", 1);
        told(" ", 0);
        told("\n", 0);
        told(blanks(600), 0);
        fault("do ck a;", 0, 1);
        fault("dock a b;", 7, 1);
        fault("dock a gives 1 2;", 15, 1);
        for (char no : new char[] {0, 9, 11, 12, 13, 31, 33, 160}) {
            fault("dock" + no + "a;", 4, 1);
            fault(no + "dock a;", 0, 1);
        }
    }

    private static void words() {
        CHECK.sentence("WORDS (small letters, each that stand together; 1 to 6)");
        for (char letter = 'a'; letter <= 'z'; letter++) {
            told("dock " + letter + ";", 1);
        }
        told("dock abcdef;", 1);
        told("dock zzzzzz;", 1);
        fault("dock abcdefg;", 5, 1);
        fault("dock a;dockdock b;", 7, 1);
        fault("dock `a;", 5, 1);
        fault("dock {a;", 5, 1);
        fault("dock A;", 5, 1);
        fault("dock Z;", 5, 1);
        fault("docka;", 0, 1);
    }

    private static void numbers() {
        CHECK.sentence("NUMBERS (digits, likewise; 1 to 4)");
        for (int digit = 0; digit <= 9; digit++) {
            PivotDocks x = Check.told("dock a gives " + digit + ";");
            CHECK.due("gives " + digit, x.dock(0, 0), digit);
        }
        CHECK.due("gives 0999", Check.told("dock a gives 0999;").dock(0, 0), 999);
        CHECK.due("gives 0000", Check.told("dock a gives 0000;").dock(0, 0), 0);
        CHECK.due("gives 0010", Check.told("dock a gives 0010;").dock(0, 0), 10);
        fault("dock a gives 00000;", 13, 1);
        fault("dock a gives 12345;", 13, 1);
        fault("dock a gives 4294967297;", 13, 1);
        fault("dock a gives 18446744073709551617;", 13, 1);
        fault("dock a gives /;", 13, 1);
        fault("dock a gives :;", 13, 1);
        fault("dock a gives -1;", 13, 1);
        told("dock a gives5;", 1);
    }

    private static void stopAlone() {
        CHECK.sentence("; alone");
        fault("dock a;;", 7, 1);
        fault(";", 0, 1);
        fault("dock;a;", 4, 1);
        told("dock a ;dock b;", 2);
    }

    private static void allElse() {
        CHECK.sentence("(longer ones, all else are no TOKENS)");
        for (int sign = 0; sign < 256; sign++) {
            boolean goesOn = sign == 32 || sign == 10 || sign >= 'a' && sign <= 'z';
            int want = goesOn ? 1 : sign == ';' ? Check.fault(7, 1) : Check.fault(6, 1);
            CHECK.due("\"dock a\", byte " + sign + ", \";\"", Check.tell(new PivotDocks(), "dock a" + (char) sign + ";"), want);
        }
        fault("block 1;\u00e9", 8, 1);
    }

    // ---- the text

    private static void linesAndStops() {
        CHECK.sentence("TEXT: { LINE ; }.");
        told("", 0);
        told("dock a;", 1);
        told("block 1;dock a;dock b;", 2);
        fault("dock a", 6, 1);
        fault("dock a dock b;", 7, 1);
        fault(TWO + "route r a b costs 1 holds 1 dock c;", 42, 1);
        fault("block 1 dock a;", 8, 1);
    }

    private static void gifts() {
        CHECK.sentence("dock NAME [ gives NUMBER | takes NUMBER ] (0 to 999; 8 at most)");
        int[] edges = {0, 1, 998, 999};
        for (int edge : edges) {
            CHECK.due("gives " + edge, Check.told("dock a gives " + edge + ";").dock(0, 0), edge);
            CHECK.due("takes " + edge, Check.told("dock a takes " + edge + ";").dock(0, 0), -edge);
        }
        fault("dock a gives 1000;", 13, 3);
        fault("dock a takes 1000;", 13, 3);
        fault("dock a gives 9999;", 13, 3);
        fault("dock a gives;", 12, 1);
        fault("dock a takes;", 12, 1);
        fault("dock a gives 1 takes 1;", 15, 1);
        fault("dock a takes 1 gives 1;", 15, 1);
        fault("dock a gives 1 gives 1;", 15, 1);
    }

    private static void atMost8Docks() {
        CHECK.sentence("8 at most");
        for (int n = 0; n <= 8; n++) {
            told(docks(n), n);
        }
        fault(docks(9), 56, 5);
    }

    private static void routeNumbers() {
        CHECK.sentence("unlike ones; 0 to 999, 1 to 999; 16 at most");
        int[] edges = {0, 1, 998, 999};
        for (int edge : edges) {
            CHECK.due("costs " + edge, Check.told(TWO + "route r a b costs " + edge + " holds 5;").way(0, 2), edge);
            if (edge > 0) {
                CHECK.due("holds " + edge, Check.told(TWO + "route r a b costs 5 holds " + edge + ";").way(0, 3), edge);
            }
        }
        fault(TWO + "route r a b costs 1000 holds 5;", 32, 3);
        fault(TWO + "route r a b costs 5 holds 0;", 40, 3);
        fault(TWO + "route r a b costs 5 holds 0000;", 40, 3);
        fault(TWO + "route r a b costs 5 holds 1000;", 40, 3);
        fault(TWO + "route r a b costs 5;", 33, 1);
        fault(TWO + "route r a b holds 5;", 26, 1);
    }

    private static void routeEnds() {
        CHECK.sentence("from the first one to the second one, unlike ones");
        PivotDocks x = Check.told("dock a;dock b;dock c;route r a c costs 1 holds 1;route s c a costs 1 holds 1;");
        CHECK.due("r begins", x.way(0, 0), 0);
        CHECK.due("r ends", x.way(0, 1), 2);
        CHECK.due("s begins", x.way(1, 0), 2);
        CHECK.due("s ends", x.way(1, 1), 0);
        fault(TWO + "route r a a costs 1 holds 1;", 24, 4);
        fault(TWO + "route r b b costs 1 holds 1;", 24, 4);
        told(TWO + "route r a b costs 1 holds 1;route s a b costs 1 holds 1;", 2);
    }

    private static void atMost16Routes() {
        CHECK.sentence("16 at most");
        PivotDocks x = new PivotDocks();
        CHECK.due("16 routes", Check.tell(x, routes(16)), 2);
        CHECK.due("count(1)", x.count(1), 16);
        CHECK.due("the last one holds", x.way(15, 3), 1);
        fault(routes(17), 14 + 16 * 29, 5);
        CHECK.due("15 routes, then a dock", Check.tell(new PivotDocks(), routes(15) + "dock z;"), 3);
    }

    private static void blockNumber() {
        CHECK.sentence("block NUMBER (1 to 24; 4 without)");
        for (int n = 1; n <= 24; n++) {
            CHECK.due("block " + n, Check.told("block " + n + ";").count(2), n);
        }
        CHECK.due("without", Check.told("dock a;").count(2), 4);
        CHECK.due("without, of an empty text", Check.told("").count(2), 4);
        fault("block 0;", 6, 3);
        fault("block 25;", 6, 3);
        fault("block 9999;", 6, 3);
        fault("block;", 5, 1);
        PivotDocks x = Check.told("block 9;");
        Check.tell(x, "dock a;");
        CHECK.due("without, behind a text with one", x.count(2), 4);
    }

    private static void numberedAsTold() {
        CHECK.sentence("DOCKS, ROUTES are numbered from 0 on, as told.");
        PivotDocks x = Check.told("dock z gives 1;dock y gives 2;route b z y costs 5 holds 1;dock x gives 3;route a x z costs 6 holds 1;");
        for (int d = 0; d < 3; d++) {
            CHECK.due("gift of " + d, x.dock(d, 0), d + 1);
        }
        CHECK.due("route 0 costs", x.way(0, 2), 5);
        CHECK.due("route 1 costs", x.way(1, 2), 6);
        CHECK.due("route 1 begins", x.way(1, 0), 2);
        CHECK.due("tenders come behind all routes", x.way(2, 0), 0);
    }

    private static void namesButKeywords() {
        CHECK.sentence("A NAME is a WORD but dock, gives, takes, route, costs, holds, block");
        for (String word : KEYWORDS) {
            fault("dock " + word + ";", 5, 1);
            fault(TWO + "route " + word + " a b costs 1 holds 1;", 20, 1);
            fault(TWO + "route r " + word + " b costs 1 holds 1;", 22, 1);
            fault(TWO + "route r a " + word + " costs 1 holds 1;", 24, 1);
            told("dock " + word.substring(1) + ";", 1);
            told("dock " + word.substring(0, word.length() - 1) + ";", 1);
            told("dock " + word + "s;", 1);
            told("dock x" + word + ";", 1);
        }
        for (String word : new String[] {"hub", "way", "tree", "none", "tender", "text"}) {
            told("dock " + word + ";", 1);
        }
    }

    private static void namesUnlike() {
        CHECK.sentence("no two are alike, of whatever sort");
        fault("dock a;dock b;dock a;", 19, 2);
        fault(TWO + "route b a b costs 1 holds 1;", 20, 2);
        fault(TWO + "route r a b costs 1 holds 1;route r b a costs 1 holds 1;", 48, 2);
        fault(TWO + "route r a b costs 1 holds 1;dock r;", 47, 2);
        fault("dock abcdef;dock abcdef;", 17, 2);
        told("dock abcdef;dock abcdeg;dock bbcdef;dock abcde;dock bcdef;", 5);
        told("dock a;dock aa;dock aaa;dock aaaaaa;", 4);
        PivotDocks x = Check.told("dock a;");
        CHECK.due("names of an earlier text are gone", Check.tell(x, "dock a;dock b;"), 2);
        CHECK.due("names of a text with a fault are gone", Check.tell(x, "dock c;dock c;"), Check.fault(12, 2));
        CHECK.due("names of a text with a fault are gone", Check.tell(x, "dock c;"), 1);
    }

    private static void dockToldAhead() {
        CHECK.sentence("DOCK: the NAME of one that was told ahead.");
        fault("dock a;route r a b costs 1 holds 1;dock b;", 17, 4);
        fault("dock b;route r a b costs 1 holds 1;dock a;", 15, 4);
        told("dock a;dock b;route r b a costs 1 holds 1;", 2);
        PivotDocks x = Check.told(TWO);
        CHECK.due("docks of an earlier text are none", Check.tell(x, "dock c;route r c a costs 1 holds 1;"), Check.fault(17, 4));
    }

    private static void giftOfADock() {
        CHECK.sentence("GIFT of a DOCK: what it gives; what it takes, below 0; 0 without.");
        PivotDocks x = Check.told("dock a gives 3;dock b takes 3;dock c;dock d gives 0;dock e takes 0;");
        int[] gifts = {3, -3, 0, 0, 0};
        for (int d = 0; d < 5; d++) {
            CHECK.due("gift of " + d, x.dock(d, 0), gifts[d]);
        }
        Check.tell(x, "dock a;dock b;");
        CHECK.due("without, behind a text with some", x.dock(0, 0), 0);
        CHECK.due("without, behind a text with some", x.dock(1, 0), 0);
    }

    // ---- faults

    private static void leastPlace() {
        CHECK.sentence("FAULTS, the one whose place is least");
        fault("dock a gives 1000;?", 13, 3);
        fault("dock a;dock a gives 1000;block 0;", 12, 2);
        fault("block 0;block 0;", 6, 3);
        fault("dock a;route a b b costs 1000 holds 0;", 13, 2);
        fault("dock a;route r b b costs 1000 holds 0;", 15, 4);
        fault(TWO + "route r a b costs 1000 holds 0;", 32, 3);
        fault(docks(9) + "?", 56, 5);
        fault("? dock a gives 1000;", 0, 1);
        fault("dock abcdefg gives 1000;", 5, 1);
        fault(docks(8) + "dock a gives 1000", 56, 5);
    }

    private static void firstOfTheList() {
        CHECK.sentence("of one place the first of this list");
        fault("dock a;dock b a;", 14, 1);
        fault("block 1 block 2;", 8, 1);
        fault("dock 1000;", 5, 1);
        fault("dock a 1000;", 7, 1);
        fault("dock a;route r a costs;", 17, 1);
        fault("dock a;dock dock;", 12, 1);
        fault(docks(7) + "dock h dock i;", 56, 1);
        fault(routes(16).substring(0, 14 + 16 * 29 - 1) + " route z;", 14 + 16 * 29, 1);
    }

    private static void beginsNoToken() {
        CHECK.sentence("1 the first byte that begins no TOKEN, TOKEN with which no TEXT goes on (its first byte;");
        fault("dock a gives ?;", 13, 1);
        fault("dock a ? ? ;", 7, 1);
        fault("   ?", 3, 1);
        fault("  abcdefgh;", 2, 1);
        fault("gives 1;", 0, 1);
        fault("a;", 0, 1);
        fault("9;", 0, 1);
        fault("dock ;", 5, 1);
        fault("dock 7;", 5, 1);
        fault("dock a costs 1;", 7, 1);
        fault("dock a gives b;", 13, 1);
        fault("dock a gives gives;", 13, 1);
        fault(TWO + "route r 1 b;", 22, 1);
        fault(TWO + "route r a 1;", 24, 1);
        fault(TWO + "route r a b 1;", 26, 1);
        fault(TWO + "route r a b costs;", 31, 1);
        fault(TWO + "route r a b costs x;", 32, 1);
        fault(TWO + "route r a b costs 1 1;", 34, 1);
        fault(TWO + "route r a b costs 1 holds;", 39, 1);
        fault(TWO + "route r a b costs 1 holds x;", 40, 1);
        fault(TWO + "route r a b costs 1 holds 1 1;", 42, 1);
        fault("block block;", 6, 1);
    }

    private static void theEndOfTheText() {
        CHECK.sentence("the end: how many bytes there are");
        String whole = "dock a gives 1;dock b;route r a b costs 1 holds 2;block 3;";
        // Cut behind a word or a number the text ends ahead of its stop; cut behind a stop it is a text.
        int[] stops = {0, 15, 22, 50, 58};
        int[] docks = {0, 1, 2, 2, 2};
        for (int k = 0; k < stops.length; k++) {
            told(whole.substring(0, stops[k]), docks[k]);
        }
        int[] cuts = {4, 5, 6, 7, 12, 13, 14, 19, 20, 21, 27, 28, 29, 30, 31, 32, 33, 34, 39, 40, 41, 47, 48, 49, 55, 56, 57};
        for (int cut : cuts) {
            fault(whole.substring(0, cut), cut, 1);
            fault(whole.substring(0, cut) + " \n ", cut + 3, 1);
        }
        fault("do", 0, 1);
        fault(blanks(596) + "dock", 600, 1);
    }

    private static void toldAgain() {
        CHECK.sentence("2 a NAME given that is there, the WORD block told again");
        fault("dock a;dock a;", 12, 2);
        fault("dock a;dock  a", 13, 2);
        fault("block 4;block 4;", 8, 2);
        fault("block 4;dock a; block", 16, 2);
        fault("block 4;block;", 8, 2);
    }

    private static void numbersThatCantBe() {
        CHECK.sentence("3 a NUMBER that can't be");
        fault("dock a gives 1000", 13, 3);
        fault("dock a takes  1000", 14, 3);
        fault(TWO + "route r a b costs 9999", 32, 3);
        fault(TWO + "route r a b costs 0 holds 0", 40, 3);
        fault(TWO + "route r a b costs 0 holds 1000", 40, 3);
        fault("block 00", 6, 3);
        fault("block 0025", 6, 3);
    }

    private static void namesAskedFor() {
        CHECK.sentence("4 a NAME asked for that is none of a DOCK, or that of the first DOCK of a ROUTE as its second one");
        fault("route r a", 8, 4);
        fault(TWO + "route r r b costs 1 holds 1;", 22, 4);
        fault(TWO + "route r a r costs 1 holds 1;", 24, 4);
        fault(TWO + "route r a b costs 1 holds 1;route s r a", 50, 4);
        fault(TWO + "route r c b", 22, 4);
        fault(TWO + "route r a c", 24, 4);
        fault(TWO + "route r a a", 24, 4);
        fault(TWO + "route r b b", 24, 4);
    }

    private static void oneTooMany() {
        CHECK.sentence("5 the WORD dock, route of one too many");
        fault(docks(8) + "dock", 56, 5);
        fault(docks(8) + "dock a", 56, 5);
        fault(docks(8) + "\n dock i;", 58, 5);
        fault(routes(16) + " route", 15 + 16 * 29, 5);
        fault(routes(16) + "route ra", 14 + 16 * 29, 5);
        CHECK.due("8 docks, then a block", Check.tell(new PivotDocks(), docks(8) + "block 1;"), 8);
        CHECK.due("16 routes, then a block", Check.tell(new PivotDocks(), routes(16) + "block 1;"), 2);
        PivotDocks x = Check.told(docks(8));
        CHECK.due("docks of an earlier text do not count", Check.tell(x, docks(8)), 8);
        x = Check.told(routes(16));
        CHECK.due("routes of an earlier text do not count", Check.tell(x, routes(16)), 2);
    }

    // ---- promises 1 to 3

    private static void newObject() {
        CHECK.sentence("`PivotDocks()`: No DOCKS; BEGUN.");
        PivotDocks x = new PivotDocks();
        int[] counts = {0, 0, 4, 0, 0, 0, 0, 0, 1, 0, 0, -1};
        for (int what = 0; what < counts.length; what++) {
            CHECK.due("count(" + what + ")", x.count(what), counts[what]);
        }
        CHECK.due("good()", x.good(), 0);
        CHECK.due("enters()", x.enters(), -2);
        CHECK.due("strong()", x.strong(), 1);
        CHECK.due("step()", x.step(), -2);
        CHECK.due("run(99)", x.run(99), 0);
        CHECK.due("cost()", x.cost(), 0);
        CHECK.due("total()", x.total(), 0);
        CHECK.due("proof()", x.proof(), 0);
        CHECK.due("bill(7, 8)", x.bill(7, 8), 8);
        CHECK.due("ring(0, -1)", x.ring(0, -1), -1);
        CHECK.due("closes(0, 0)", x.closes(0, 0), -1);
        CHECK.due("unit(0, 0)", x.unit(0, 0), MIN);
        CHECK.due("range(0, true)", x.range(0, true), -1);
        CHECK.due("tried(0, 0, 1, false)", x.tried(0, 0, 1, false), -1);
        CHECK.due("tried(2, 0, 1, true)", x.tried(2, 0, 1, true), -1);
        CHECK.due("load(0, 1)", x.load(0, 1), -1);
        CHECK.due("spare(0, false)", x.spare(0, false), -1);
        CHECK.due("toll(0, 1)", x.toll(0, 1), -1);
        CHECK.due("hold(0, 1)", x.hold(0, 1), -1);
        CHECK.due("sheet(-1)", x.sheet(-1), 0);
        CHECK.due("sheet(0)", x.sheet(0), -2);
        CHECK.due("ranked(0)", x.ranked(0), -1);
        CHECK.due("undo()", x.undo(), -1);
        CHECK.due("keep(1, true)", x.keep(1, true), false);
        CHECK.due("text(0)", x.text(0), 0);
        CHECK.same("as an empty text leaves it", View.of(x), View.of(new PivotDocks()));
        CHECK.dueThrow("dock(0, 0)", () -> x.dock(0, 0));
        CHECK.dueThrow("way(0, 0)", () -> x.way(0, 0));
        CHECK.dueThrow("log(0, 0)", () -> x.log(0, 0));
    }

    private static void twentyBytes() {
        CHECK.sentence("Twenty bytes come behind THE TAPE, of each number the highest first: how many it has");
        PivotDocks x = new PivotDocks();
        CHECK.due("feed", x.feed(0x646f636b, 0x20616263, 0x64656620, 0x67697665, 0x73203132), 20);
        CHECK.due("feed", x.feed(0x333b646f, 0x636b2078, 0x3b626c6f, 0x636b2032, 0x343b2020), 40);
        CHECK.due("text(40)", x.text(40), 2);
        CHECK.due("gift", x.dock(0, 0), 123);
        CHECK.due("block", x.count(2), 24);
        CHECK.due("bytes with the highest bit are bytes", x.feed(MIN, -1, MAX, 0x80808080, 0xff00ff00), 20);
        CHECK.due("byte 128 begins no token", x.text(1), Check.fault(0, 1));
        CHECK.due("feed anew", x.feed(0x20202020, 0x202020ff, 0, 0, 0), 20);
        CHECK.due("byte 255 begins no token", x.text(8), Check.fault(7, 1));
    }

    private static void fullTape() {
        CHECK.sentence("NONE, and none come, if it would have more than 600");
        PivotDocks x = new PivotDocks();
        Check.feed(x, blanks(580));
        CHECK.due("the last twenty", x.feed(0x20202020, 0x20202020, 0x20202020, 0x20646f63, 0x6b20613b), 600);
        for (int k = 0; k < 3; k++) {
            CHECK.due("one feed more", x.feed(0x3f3f3f3f, 0x3f3f3f3f, 0x3f3f3f3f, 0x3f3f3f3f, 0x3f3f3f3f), -1);
            CHECK.due("none come", x.count(7), 600);
        }
        CHECK.due("the tape is as it was", x.text(600), 1);
        CHECK.due("it takes bytes again", x.feed(0, 0, 0, 0, 0), 20);
    }

    private static void firstBytes() {
        CHECK.sentence("The first n bytes of THE TAPE (it is empty then) are the TEXT from now on");
        PivotDocks x = new PivotDocks();
        Check.feed(x, "dock a;dock b;dock c;????");
        CHECK.due("text(14)", x.text(14), 2);
        CHECK.due("count(7)", x.count(7), 0);
        CHECK.due("what was behind is gone", x.text(1), -1);
        CHECK.due("text(0) of an empty tape", x.text(0), 0);
        CHECK.due("no docks now", x.count(0), 0);
        Check.feed(x, "????");
        CHECK.due("text(0) of a tape with some", x.text(0), 0);
        CHECK.due("it is empty then, too", x.count(7), 0);
        Check.feed(x, "dock a;");
        CHECK.due("all bytes, the zeros that filled up too", x.text(20), Check.fault(7, 1));
    }

    private static void howManyDocks() {
        CHECK.sentence("are the TEXT from now on: how many DOCKS");
        told("", 0);
        told("block 7;", 0);
        told(docks(1), 1);
        told(docks(8), 8);
        told(routes(16), 2);
    }

    private static void afterAText() {
        CHECK.sentence("all is BEGUN, nothing can be UNDONE, nothing is KEPT");
        PivotDocks x = Check.told("dock a gives 2;dock b takes 2;route r a b costs 1 holds 1;block 1;");
        x.step();
        x.toll(0, 5);
        x.keep(0, false);
        x.keep(1, false);
        String text = "dock c takes 4;dock d gives 3;route s d c costs 2 holds 3;";
        CHECK.due("text", Check.tell(x, text), 2);
        CHECK.same("as a new object with that text", View.of(x), View.of(Check.told(text)));
        CHECK.due("undo()", x.undo(), -1);
        CHECK.due("keep(0, true)", x.keep(0, true), false);
        CHECK.due("keep(1, true)", x.keep(1, true), false);
        x.block(9);
        x.keep(0, false);
        CHECK.due("the empty text", x.text(0), 0);
        CHECK.same("as a new object", View.of(x), View.of(new PivotDocks()));
        CHECK.due("undo()", x.undo(), -1);
        CHECK.due("keep(0, true)", x.keep(0, true), false);
    }

    private static void lessAfterMuch() {
        CHECK.sentence("are the TEXT from now on: how many DOCKS; all is BEGUN");
        String[] texts = {"dock z;", "dock z takes 4;dock y gives 3;route s y z costs 2 holds 3;", "", "block 2;"};
        for (String text : texts) {
            PivotDocks x = Edges.busy();
            x.run(20);
            Check.tell(x, text);
            CHECK.same("behind a text with as many ways as can be", View.of(x), View.of(Check.told(text)));
        }
    }

    private static void notSoMany() {
        CHECK.sentence("NONE: it has not so many, n is below 0 (THE TAPE stays).");
        for (int n : new int[] {21, 600, 601, MAX, -1, -2, MIN}) {
            PivotDocks x = Check.told(TWO);
            x.block(9);
            x.keep(0, false);
            Check.feed(x, "dock c;");
            String before = View.of(x);
            CHECK.due("text(" + n + ")", x.text(n), -1);
            CHECK.same("all stays", View.of(x), before);
            CHECK.due("the keep stays", x.keep(0, true), true);
            CHECK.due("the tape stays", x.text(7), 1);
        }
        CHECK.due("text(1) of an empty tape", new PivotDocks().text(1), -1);
        CHECK.due("text(-1) of an empty tape", new PivotDocks().text(-1), -1);
    }

    private static PivotDocks richBeforeAFault() {
        PivotDocks x = Check.told("dock a gives 2;dock b takes 2;route r a b costs 1 holds 1;route s a b costs 2 holds 9;block 7;");
        x.keep(1, false);
        x.step();
        x.toll(0, 5);
        x.load(0, 1);
        return x;
    }

    private static void faultsLeaveAllElse() {
        CHECK.sentence("-2 less (8 * place + kind): a FAULT (all else stays).");
        String[] texts = {"dock z gives 5;block 9;route q z z", "?", "dock a;dock a;", "block 0;", docks(9), routes(17), "dock"};
        int[] places = {33, 0, 12, 6, 56, 14 + 16 * 29, 4};
        int[] kinds = {4, 1, 2, 3, 5, 5, 1};
        for (int k = 0; k < texts.length; k++) {
            PivotDocks x = richBeforeAFault();
            PivotDocks y = richBeforeAFault();
            CHECK.due("\"" + texts[k] + "\"", Check.tell(x, texts[k]), -2 - (8 * places[k] + kinds[k]));
            CHECK.same("all stays, and the tape is empty", View.of(x), View.of(y));
            CHECK.due("undo()", x.undo(), 2);
            y.undo();
            CHECK.same("what was done can be undone", View.of(x), View.of(y));
            CHECK.due("the keep stays", x.keep(1, true), true);
            CHECK.due("it is what was kept", x.count(5), 0);
            CHECK.due("the other one is empty still", x.keep(0, true), false);
        }
        PivotDocks x = richBeforeAFault();
        x.run(9);
        String sheet = Check.sheet(x);
        Check.tell(x, "dock u;dock v;route names u v costs 1 holds 1;route others u v costs 1 holds 0;");
        CHECK.same("names of routes stay", Check.sheet(x), sheet);
    }
}

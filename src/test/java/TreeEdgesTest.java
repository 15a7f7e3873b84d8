/** The edges that "==== 2." of the document and promises 4 to 19 name, each sentence by itself. */
public final class TreeEdgesTest {
    private static final Check CHECK = new Check();
    private static final int MIN = Integer.MIN_VALUE;
    private static final int MAX = Integer.MAX_VALUE;
    private static final String PAIR = "dock a gives 9;dock b takes 9;";

    public static void main(String[] args) {
        tenderNumbers();
        tenderEnds();
        tenderHolds();
        emptyOrFull();
        begun();
        depths();
        waysUp();
        prices();
        gains();
        goodOnes();
        theEnd();
        ringOrder();
        ringGoneThrough();
        apexes();
        rooms();
        loads();
        leaving();
        blocksBegin();
        blocksWrap();
        blocksAllLooked();
        greatestGain();
        pointers();
        flows();
        itselfLeaves();
        otherLeaves();
        moved();
        lackAndStuck();
        proofSums();
        dockOthers();
        wayOthers();
        wayNone();
        ranks();
        howManyGood();
        entersAtTheEnd();
        ringRefused();
        ringNone();
        closesHub();
        closesRefused();
        strongTrees();
        stepAtTheEnd();
        runs();
        runOf99();
        runNone();
        logOthers();
        logOf16();
        bills();
        costs();
        totals();
        lackNone();
        CHECK.end("TreeEdgesTest");
    }

    /** A gives, b takes, routes from a to b; ways: the routes, then the tender of a, then that of b. */
    private static PivotDocks pair(int gives, int takes, int costs, int holds) {
        return Check.told("dock a gives " + gives + ";dock b takes " + takes + ";route r a b costs " + costs + " holds " + holds + ";");
    }

    private static void dueWay(PivotDocks x, int way, int flow, int state) {
        CHECK.due("way(" + way + ", 4)", x.way(way, 4), flow);
        CHECK.due("way(" + way + ", 5)", x.way(way, 5), state);
    }

    private static void dueCloses(PivotDocks x, int way, int load, int leaving, int apex) {
        CHECK.due("closes(" + way + ", 0)", x.closes(way, 0), load);
        CHECK.due("closes(" + way + ", 1)", x.closes(way, 1), leaving);
        CHECK.due("closes(" + way + ", 2)", x.closes(way, 2), apex);
    }

    private static void dueRing(PivotDocks x, int way, int... want) {
        CHECK.due("ring(" + way + ", -1)", x.ring(way, -1), want.length);
        for (int k = 0; k < want.length; k++) {
            CHECK.due("ring(" + way + ", " + k + ")", x.ring(way, k), want[k]);
        }
        CHECK.due("ring(" + way + ", " + want.length + ")", x.ring(way, want.length), -2);
    }

    // ---- ways and the tree

    private static void tenderNumbers() {
        CHECK.sentence("then of each DOCK its TENDER (its number: how many ROUTES there are, and the DOCK)");
        PivotDocks none = Check.told("dock a;dock b takes 1;");
        CHECK.due("without routes, tender of a", none.way(0, 0), 0);
        CHECK.due("without routes, tender of b", none.way(1, 1), 1);
        CHECK.dueThrow("way(2, 0)", () -> none.way(2, 0));
        PivotDocks most = Edges.most();
        CHECK.due("the last route", most.way(15, 2), 1);
        for (int dock = 0; dock < 8; dock++) {
            CHECK.due("tender of " + dock, most.way(16 + dock, 0), dock);
            CHECK.due("way up of " + dock, most.dock(dock, 3), 16 + dock);
        }
        CHECK.dueThrow("way(24, 0)", () -> most.way(24, 0));
    }

    private static void tenderEnds() {
        CHECK.sentence("from the DOCK to the HUB, if its GIFT is 0 or more when all is BEGUN, else from the HUB to the DOCK");
        PivotDocks x = Check.told("dock a gives 1;dock b gives 0;dock c;dock d takes 0;dock e takes 1;dock f takes 999;");
        for (int dock = 0; dock < 6; dock++) {
            boolean toHub = dock < 4;
            CHECK.due("tender of " + dock + " begins", x.way(dock, 0), toHub ? dock : -1);
            CHECK.due("tender of " + dock + " ends", x.way(dock, 1), toHub ? -1 : dock);
        }
    }

    private static void tenderHolds() {
        CHECK.sentence("it costs 10000, and holds as much as one likes");
        PivotDocks x = Edges.muchLacking();
        CHECK.due("more comes by a tender than any dock takes", x.way(4, 4), 1993);
        CHECK.due("lack of that dock", x.dock(1, 5), 1993);
        CHECK.due("it takes itself", x.dock(1, 0), -999);
        CHECK.due("as much as one likes", x.spare(1, true), 1000000);
        PivotDocks y = Edges.muchStuck();
        CHECK.due("more goes by a tender than any dock gives", y.way(4, 4), 1993);
        CHECK.due("stuck of that dock", y.dock(1, 6), 1993);
        CHECK.due("as much as one likes", y.spare(1, false), 1000000);
        CHECK.due("no tender is full", y.count(9), 0);
        for (int way = 3; way < 6; way++) {
            CHECK.due("costs", x.way(way, 2), 10000);
            CHECK.due("holds", x.way(way, 3), -1);
        }
        CHECK.due("room of a tender that is empty", Edges.ended().closes(5, 0), 1);
    }

    private static void emptyOrFull() {
        CHECK.sentence("A WAY that isn't in it is EMPTY (FLOW 0) or FULL (FLOW is what it holds).");
        PivotDocks x = Edges.ended();
        dueWay(x, 1, 3, 2);
        dueWay(x, 4, 0, 1);
        dueWay(x, 5, 0, 1);
        PivotDocks y = pair(9, 9, 1, 1);
        dueWay(y, 0, 0, 1);
        y.step();
        dueWay(y, 0, 1, 2);
        // In THE TREE a FLOW of 0, or of all that it holds, is neither.
        PivotDocks z = pair(9, 9, 1, 9);
        z.step();
        dueWay(z, 0, 9, 0);
        CHECK.due("count(9)", z.count(9), 0);
        z.load(1, 9);
        dueWay(z, 0, 0, 0);
    }

    private static void begun() {
        CHECK.sentence("BEGUN: THE TREE is all TENDERS, each with its DOCK's GIFT (without sign) as FLOW; all ROUTES are EMPTY; the POINTER is WAY 0.");
        PivotDocks x = Check.told("dock a gives 999;dock b takes 999;dock c;route r a b costs 1 holds 1;route s b c costs 0 holds 999;");
        dueWay(x, 0, 0, 1);
        dueWay(x, 1, 0, 1);
        dueWay(x, 2, 999, 0);
        dueWay(x, 3, 999, 0);
        dueWay(x, 4, 0, 0);
        CHECK.due("the pointer", x.count(3), 0);
        CHECK.due("routes in the tree", x.count(10), 0);
        CHECK.due("full ways", x.count(9), 0);
        CHECK.due("pivots", x.count(5), 0);
    }

    private static void depths() {
        CHECK.sentence("DEPTH of a DOCK: how many WAYS are between it and the HUB in THE TREE.");
        PivotDocks x = Edges.chain();
        for (int dock = 0; dock < 8; dock++) {
            CHECK.due("at first, depth of " + dock, x.dock(dock, 2), 1);
            CHECK.due("at first, hanging from " + dock, x.dock(dock, 4), 1);
        }
        CHECK.due("run(99)", x.run(99), 7);
        for (int dock = 0; dock < 8; dock++) {
            CHECK.due("depth of " + dock, x.dock(dock, 2), dock + 1);
            CHECK.due("hanging from " + dock, x.dock(dock, 4), 8 - dock);
        }
    }

    private static void waysUp() {
        CHECK.sentence("Its WAY UP: the first of these, seen from it.");
        PivotDocks x = Edges.chain();
        CHECK.due("at first", x.dock(7, 3), 14);
        x.run(6);
        for (int dock = 1; dock < 7; dock++) {
            CHECK.due("up along the route, of " + dock, x.dock(dock, 3), dock);
        }
        CHECK.due("up by the tender", x.dock(7, 3), 14);
        x.run(1);
        for (int dock = 1; dock < 8; dock++) {
            CHECK.due("up against the route, of " + dock, x.dock(dock, 3), dock - 1);
        }
        CHECK.due("up by the tender", x.dock(0, 3), 7);
    }

    private static void prices() {
        CHECK.sentence("PRICE: 0 of the HUB; by each WAY in THE TREE its end has the PRICE of its beginning, and what it costs, more.");
        PivotDocks x = Edges.chain();
        CHECK.due("a tender to the hub", x.dock(0, 1), -10000);
        CHECK.due("a tender from the hub", x.dock(7, 1), 10000);
        x.run(6);
        for (int dock = 1; dock < 8; dock++) {
            CHECK.due("price of " + dock, x.dock(dock, 1), 10000 - (7 - dock));
        }
        x.run(1);
        for (int dock = 0; dock < 8; dock++) {
            CHECK.due("price of " + dock, x.dock(dock, 1), -10000 + dock);
        }
        for (int route = 0; route < 7; route++) {
            x.toll(route, 999);
        }
        CHECK.due("the highest", x.dock(7, 1), -10000 + 7 * 999);
    }

    private static void gains() {
        CHECK.sentence("GAIN of a WAY: what it costs, and the PRICE of its beginning, less that of its end.");
        CHECK.due("the greatest without sign", pair(1, 1, 0, 1).way(0, 6), -20000);
        CHECK.due("back", Check.told("dock a takes 1;dock b gives 1;route r a b costs 999 holds 1;").way(0, 6), 20999);
        CHECK.due("between like prices", Check.told("dock a;dock b;route r a b costs 0 holds 1;").way(0, 6), 0);
        PivotDocks x = Edges.ended();
        int[] gains = {0, -3, 0, 0, 2, 19992};
        for (int way = 0; way < 6; way++) {
            CHECK.due("way(" + way + ", 6)", x.way(way, 6), gains[way]);
        }
    }

    private static void goodOnes() {
        CHECK.sentence("It is GOOD, if it is EMPTY and its GAIN is below 0, or FULL and above 0.");
        // Ways 0 and 1 from a to b; 1 is in the tree at cost 2.
        int[][] empty = {{9, 0}, {3, 0}, {2, 0}, {1, 1}, {0, 1}};
        for (int[] row : empty) {
            PivotDocks x = Check.told("dock a gives 1;dock b takes 1;route r a b costs 9 holds 5;route s a b costs 2 holds 5;");
            x.run(9);
            x.toll(0, row[0]);
            CHECK.due("an empty one at gain " + x.way(0, 6), x.good(), row[1]);
        }
        // Way 1 is full and gains -3 at cost 3.
        int[][] full = {{0, 0}, {5, 0}, {6, 0}, {7, 1}, {999, 1}};
        for (int[] row : full) {
            PivotDocks x = Edges.ended();
            x.toll(1, row[0]);
            CHECK.due("a full one at gain " + x.way(1, 6), x.good(), row[1]);
        }
        PivotDocks x = Edges.ended();
        x.toll(0, 0);
        CHECK.due("an empty tender at gain 0", x.way(4, 6), 0);
        CHECK.due("it is not good", x.good(), 0);
        CHECK.due("an empty tender below 0", Edges.goodTender().way(2, 6), -7);
        CHECK.due("it is good", Edges.goodTender().good(), 1);
    }

    private static void theEnd() {
        CHECK.sentence("THE END: none is GOOD.");
        CHECK.due("no ways at all", new PivotDocks().count(8), 1);
        CHECK.due("no routes", Check.told("dock a gives 5;dock b takes 5;").count(8), 1);
        CHECK.due("lacking, but nothing is good", Check.told("dock a gives 5;dock b takes 5;route r b a costs 0 holds 9;").count(8), 1);
        CHECK.due("one is good", pair(1, 1, 999, 1).count(8), 0);
        CHECK.due("one is good, though nothing would flow", pair(0, 1, 999, 1).count(8), 0);
        CHECK.due("at the end", Edges.ended().count(8), 1);
    }

    // ---- rings

    private static void ringOrder() {
        CHECK.sentence("RING, in order: from APEX down to A, the WAY itself, from B up to APEX.");
        PivotDocks x = Edges.chainWith("route up a d costs 9 holds 9;route back d a costs 9 holds 9;route side h d costs 9 holds 9;");
        x.run(99);
        dueRing(x, 7, 7, 2, 1, 0);
        dueRing(x, 8, 0, 1, 2, 8);
        dueRing(x, 9, 3, 4, 5, 6, 9);
        // The tender of h comes from the HUB: it is gone through first; that of b goes there: it is last.
        dueRing(x, 17, 17, 6, 5, 4, 3, 2, 1, 0, 10);
        dueRing(x, 11, 10, 0, 11);
        // A FULL one is gone through from its end to its beginning.
        dueRing(Edges.ended(), 1, 2, 1, 0);
    }

    private static void ringGoneThrough() {
        CHECK.sentence("RING of a WAY that isn't in THE TREE: it is gone through from its beginning to its end, if it is EMPTY, else from its end to its beginning; where it is gone into is A, where one comes out is B.");
        // Way 0 turns over between empty and full; b hangs from a by way 1.
        PivotDocks x = Check.told(PAIR + "route r a b costs 1 holds 4;route s a b costs 2 holds 20;block 1;");
        x.run(9);
        CHECK.due("it is full", x.way(0, 5), 2);
        dueRing(x, 0, 1, 0);
        CHECK.due("B is the apex", x.closes(0, 2), 0);
        x.toll(0, 9);
        x.step();
        CHECK.due("it is empty", x.way(0, 5), 1);
        dueRing(x, 0, 0, 1);
        CHECK.due("A is the apex", x.closes(0, 2), 0);
        // Tenders that aren't in the tree: one from the hub, one to the hub.
        PivotDocks y = Edges.ended();
        dueRing(y, 5, 5, 2, 3);
        dueRing(y, 4, 3, 0, 4);
    }

    private static void apexes() {
        CHECK.sentence("APEX: the DOCK, or the HUB, nearest to A that is on the way up from A to the HUB (A, too) and on that from B (B, too).");
        PivotDocks x = Edges.chainWith("route up a d costs 9 holds 9;route back d b costs 9 holds 9;");
        x.run(99);
        CHECK.due("A itself", x.closes(7, 2), 0);
        CHECK.due("B itself", x.closes(8, 2), 1);
        CHECK.due("the hub is A", x.closes(16, 2), 100);
        CHECK.due("the hub is B", x.closes(10, 2), 100);
        CHECK.due("another dock", Edges.ended().closes(1, 2), 0);
        CHECK.due("the hub between two docks", pair(1, 1, 1, 1).closes(0, 2), 100);
    }

    private static void rooms() {
        CHECK.sentence("ROOM of a WAY in it: of the WAY itself what it holds; of others, gone along (from beginning to end): what it holds less its FLOW; gone against: its FLOW.");
        CHECK.due("of an empty one itself", pair(9, 9, 1, 4).closes(0, 0), 4);
        PivotDocks x = pair(9, 9, 1, 4);
        x.step();
        CHECK.due("of a full one itself", x.closes(0, 0), 4);
        CHECK.due("gone against, tender of a", pair(3, 9, 1, 4).closes(0, 0), 3);
        CHECK.due("gone against, tender of b", pair(9, 2, 1, 4).closes(0, 0), 2);
        // Way 0 is in the tree with 2 of 5; way 1 back goes along it, way 2 beside it goes against it.
        PivotDocks y = Check.told("dock a gives 2;dock b takes 2;route r a b costs 1 holds 5;route s b a costs 9 holds 99;route t a b costs 9 holds 99;");
        y.run(9);
        CHECK.due("gone along", y.closes(1, 0), 3);
        CHECK.due("gone against", y.closes(2, 0), 2);
        y.hold(0, 2);
        CHECK.due("gone along, when it holds no more", y.closes(1, 0), 0);
        y.load(1, 2);
        CHECK.due("gone against, when nothing flows", y.closes(2, 0), 0);
    }

    private static void loads() {
        CHECK.sentence("LOAD: the least ROOM.");
        int[][] rows = {{9, 9, 4, 4}, {9, 3, 4, 3}, {2, 3, 4, 2}, {0, 3, 4, 0}, {999, 999, 999, 999}, {999, 999, 1, 1}};
        for (int[] row : rows) {
            CHECK.due("load of " + row[0] + ", " + row[1] + ", " + row[2], pair(row[0], row[1], 1, row[2]).closes(0, 0), row[3]);
        }
    }

    private static void leaving() {
        CHECK.sentence("LEAVING: the last one in order that has it.");
        // Rooms in order: tender of a (1), the route (0), tender of b (2).
        int[][] rows = {{9, 9, 9, 2}, {4, 4, 9, 0}, {4, 9, 9, 1}, {9, 4, 4, 2}, {4, 9, 4, 2}, {9, 4, 9, 0}, {9, 9, 4, 2}, {0, 5, 5, 1}, {5, 5, 9, 0}};
        for (int[] row : rows) {
            PivotDocks x = pair(row[0], row[2], 1, row[1]);
            CHECK.due("leaving of rooms " + row[0] + ", " + row[1] + ", " + row[2], x.closes(0, 1), row[3]);
            x.step();
            CHECK.due("it left", x.log(0, 1), row[3]);
        }
        PivotDocks x = Edges.chain();
        x.run(6);
        CHECK.due("of nine like ones the last", x.closes(0, 1), 14);
        x.run(1);
        CHECK.due("behind it one that holds as much as one likes", x.closes(14, 1), 0);
    }

    // ---- pivots by blocks

    private static final String FOUR = "route p a b costs 7 holds 1;route q a b costs 5 holds 1;route r a b costs 5 holds 1;route s a b costs 1 holds 1;";

    private static void blocksBegin() {
        CHECK.sentence("in blocks of as many as block tells, till a block is done in which one is GOOD at least");
        int[][] rows = {{1, 0, 1}, {2, 1, 2}, {3, 1, 3}, {4, 3, 4}, {5, 3, 5}, {6, 3, 0}, {7, 3, 0}, {24, 3, 0}};
        for (int[] row : rows) {
            PivotDocks x = Check.told(PAIR + FOUR + "block " + row[0] + ";");
            CHECK.due("enters() by blocks of " + row[0], x.enters(), row[1]);
            CHECK.due("step()", x.step(), row[1]);
            CHECK.due("the pointer", x.count(3), row[2]);
        }
        // Ways 0 to 2 are not good: the block of two in which 3 is goes on to its end only.
        String back = "route t b a costs 1 holds 1;route u b a costs 1 holds 1;route v b a costs 1 holds 1;";
        int[][] behind = {{1, 3, 4}, {2, 3, 4}, {3, 4, 6}, {4, 3, 4}, {5, 4, 5}, {7, 6, 7}, {9, 6, 0}};
        for (int[] row : behind) {
            PivotDocks x = Check.told(PAIR + back + FOUR + "block " + row[0] + ";");
            CHECK.due("blocks of " + row[0] + " with none go by", x.step(), row[1]);
            CHECK.due("the pointer", x.count(3), row[2]);
        }
    }

    private static void blocksWrap() {
        CHECK.sentence("from the POINTER on (behind the last one the first one)");
        PivotDocks x = Check.told(PAIR + FOUR + "block 5;");
        int[] entered = {3, 1, 2, 0};
        int[] pointers = {5, 4, 3, 2};
        for (int k = 0; k < 4; k++) {
            CHECK.due("step() " + k, x.step(), entered[k]);
            CHECK.due("the pointer behind it", x.count(3), pointers[k]);
        }
        CHECK.due("the end", x.step(), -2);
        CHECK.due("the pointer stays", x.count(3), 2);
        PivotDocks y = Check.told(PAIR + FOUR + "block 1;");
        for (int k = 0; k < 4; k++) {
            CHECK.due("one by one", y.step(), k);
            CHECK.due("the pointer", y.count(3), k + 1);
        }
    }

    private static void blocksAllLooked() {
        CHECK.sentence("or all WAYS have been looked at once");
        // Way 3 alone is in the tree then, the pointer is at the tenders; 2 gets good by its toll.
        int[][] rows = {{1, 3}, {2, 4}, {3, 4}, {4, 4}, {5, 3}, {6, 4}, {24, 4}};
        for (int[] row : rows) {
            PivotDocks x = Check.told(PAIR + "route p a b costs 5 holds 1;route q a b costs 5 holds 1;route r a b costs 5 holds 1;route s a b costs 3 holds 20;");
            CHECK.due("the first one", x.step(), 3);
            CHECK.due("the pointer", x.count(3), 4);
            x.toll(2, 1);
            x.block(row[0]);
            CHECK.due("enters() by blocks of " + row[0], x.enters(), 2);
            CHECK.due("step()", x.step(), 2);
            CHECK.due("the last block ends where all have been looked at", x.count(3), row[1]);
        }
    }

    private static void greatestGain() {
        CHECK.sentence("of those GOOD ones the one whose GAIN, without sign, is greatest, of like ones the first that was looked at");
        PivotDocks x = Check.told(PAIR + "route p a b costs 1 holds 1;route q a b costs 5 holds 1;route r a b costs 5 holds 1;route s a b costs 6 holds 1;block 2;");
        CHECK.due("p of p, q", x.step(), 0);
        CHECK.due("the pointer", x.count(3), 2);
        x.block(24);
        CHECK.due("r is looked at ahead of q, which gains as much", x.step(), 2);
        CHECK.due("q ahead of s", x.step(), 1);
        // A full one above 0 beside an empty one below 0: without sign the greater one.
        PivotDocks y = fullAndEmpty(6, 1);
        CHECK.due("gain of the full one", y.way(0, 6), 4);
        CHECK.due("gain of the empty one", y.way(1, 6), -1);
        CHECK.due("the full one", y.enters(), 0);
        y = fullAndEmpty(4, 0);
        CHECK.due("gain of the full one", y.way(0, 6), 2);
        CHECK.due("gain of the empty one", y.way(1, 6), -2);
        CHECK.due("the first of like ones", y.enters(), 0);
        y = fullAndEmpty(3, 0);
        CHECK.due("gain of the full one", y.way(0, 6), 1);
        CHECK.due("gain of the empty one", y.way(1, 6), -2);
        CHECK.due("the empty one", y.enters(), 1);
    }

    /** Way 0 is full, 1 is empty, 2 is in the tree at cost 2; then 0 and 1 get other costs. */
    private static PivotDocks fullAndEmpty(int costOfFull, int costOfEmpty) {
        PivotDocks x = Check.told(PAIR + "route p a b costs 1 holds 2;route q a b costs 9 holds 2;route r a b costs 2 holds 20;block 24;");
        x.run(9);
        x.toll(0, costOfFull);
        x.toll(1, costOfEmpty);
        return x;
    }

    private static void pointers() {
        CHECK.sentence("The POINTER is then the WAY behind the last one looked at.");
        PivotDocks x = Check.told(PAIR + FOUR + "block 6;");
        x.step();
        CHECK.due("behind the last way comes way 0", x.count(3), 0);
        CHECK.due("asking moves nothing", x.enters(), 1);
        CHECK.due("asking moves nothing", x.count(3), 0);
        x.block(3);
        x.step();
        CHECK.due("behind a block of 3", x.count(3), 3);
        x.run(1);
        CHECK.due("behind two blocks of 3", x.count(3), 3);
    }

    private static void flows() {
        CHECK.sentence("FLOWS of WAYS in its RING that are gone along are more by LOAD, those of others less (the WAY itself: more if it was EMPTY, else less).");
        PivotDocks x = Edges.ended();
        x.toll(1, 9);
        CHECK.due("a full one enters", x.step(), 1);
        int[] flows = {0, 0, 4, 3, 0, 0};
        for (int way = 0; way < 6; way++) {
            CHECK.due("way(" + way + ", 4)", x.way(way, 4), flows[way]);
        }
        PivotDocks y = pair(9, 9, 1, 4);
        y.step();
        int[] less = {4, 5, 5};
        for (int way = 0; way < 3; way++) {
            CHECK.due("way(" + way + ", 4)", y.way(way, 4), less[way]);
        }
        PivotDocks z = pair(0, 9, 1, 4);
        z.step();
        CHECK.due("a load of 0 moves nothing", z.way(0, 4), 0);
        CHECK.due("a load of 0 moves nothing", z.way(2, 4), 9);
    }

    private static void itselfLeaves() {
        CHECK.sentence("If the LEAVING one is the WAY itself, it is FULL for EMPTY, EMPTY for FULL");
        PivotDocks x = Check.told(PAIR + "route r a b costs 1 holds 4;route s a b costs 2 holds 9;block 1;");
        x.step();
        dueWay(x, 0, 4, 2);
        CHECK.due("the tree stays", x.count(10), 0);
        x.step();
        dueWay(x, 1, 5, 0);
        x.toll(0, 9);
        CHECK.due("it enters again", x.step(), 0);
        dueWay(x, 0, 0, 1);
        dueWay(x, 1, 9, 0);
        x.toll(0, 0);
        CHECK.due("and again", x.step(), 0);
        dueWay(x, 0, 4, 2);
        dueWay(x, 1, 5, 0);
    }

    private static void otherLeaves() {
        CHECK.sentence("else it comes into THE TREE, and the LEAVING one goes out: FULL, if it was gone along, else EMPTY.");
        PivotDocks x = Edges.begun();
        x.step();
        dueWay(x, 1, 0, 0);
        dueWay(x, 4, 0, 1);
        x.step();
        dueWay(x, 0, 3, 0);
        dueWay(x, 1, 3, 2);
        x.step();
        dueWay(x, 2, 1, 0);
        dueWay(x, 5, 0, 1);
    }

    private static void moved() {
        CHECK.sentence("MOVED: how many DOCKS have another PRICE then.");
        PivotDocks x = pair(9, 9, 1, 4);
        x.step();
        CHECK.due("none", x.log(0, 4), 0);
        PivotDocks y = Edges.chain();
        for (int k = 0; k < 6; k++) {
            y.step();
            CHECK.due("one", y.log(0, 4), 1);
        }
        y.step();
        CHECK.due("all but one", y.log(0, 4), 7);
        PivotDocks z = Check.told("dock a gives 1;dock b takes 2;route r a b costs 1 holds 9;");
        z.step();
        CHECK.due("the dock that is gone through from", z.log(0, 4), 1);
        CHECK.due("its price", z.dock(0, 1), 9999);
    }

    private static void lackAndStuck() {
        CHECK.sentence("LACK of a DOCK: FLOW of its TENDER, if that comes from the HUB, else 0; STUCK: FLOW of its TENDER, if that goes to the HUB, else 0.");
        PivotDocks x = Check.told("dock a gives 999;dock b takes 999;dock c;");
        int[] lack = {0, 999, 0};
        int[] stuck = {999, 0, 0};
        for (int dock = 0; dock < 3; dock++) {
            CHECK.due("lack of " + dock, x.dock(dock, 5), lack[dock]);
            CHECK.due("stuck of " + dock, x.dock(dock, 6), stuck[dock]);
        }
        x.load(2, 7);
        CHECK.due("stuck", x.dock(2, 6), 7);
        x.load(1, 998);
        CHECK.due("lack", x.dock(1, 5), 1);
        CHECK.due("no stuck", x.dock(1, 6), 0);
        PivotDocks y = Edges.ended();
        CHECK.due("a tender that isn't in the tree", y.dock(2, 5), 0);
    }

    private static void proofSums() {
        CHECK.sentence("PROOF: the sum, for all ROUTES whose GAIN is below 0, of that GAIN times what it holds, less the sum, for all DOCKS, of its GIFT times its PRICE.");
        CHECK.due("gains above 0 do not count", Check.told("dock a;dock b;route r a b costs 9 holds 9;").proof(), 0);
        CHECK.due("a gain below 0", pair(0, 1, 0, 999).proof(), -20000L * 999 + 10000);
        CHECK.due("no routes", Check.told("dock a gives 999;dock b takes 999;").proof(), 2 * 9990000L);
        CHECK.due("at the end it is total()", Edges.ended().proof(), 30023);
        CHECK.due("at the end it is total()", Edges.ended().total(), 30023);
        CHECK.due("tenders whose gain is below 0 do not count", Edges.goodTender().proof(), 10007 + 990000 - 5 * 9998);
        CHECK.due("as many ways as can be", Edges.most().proof(), 0);
        StringBuilder most = new StringBuilder("dock a;dock b takes 1;");
        for (int r = 0; r < 16; r++) {
            most.append("route r").append((char) ('a' + r)).append(" a b costs 0 holds 999;");
        }
        CHECK.due("sixteen of them", Check.told(most.toString()).proof(), -20000L * 999 * 16 + 10000);
    }

    // ---- promises 4 to 19

    private static final int[] FAR = {MIN, -1000, -2, -1, 100, 1000, MAX};

    private static void dockOthers() {
        CHECK.sentence("Of a DOCK, what 0: GIFT, 1: PRICE, 2: DEPTH, 3: its WAY UP, 4: how many DOCKS hang from it (it, too), 5: LACK, 6: STUCK; NoSuchElementException: others, none such.");
        PivotDocks x = Edges.ended();
        CHECK.due("the last dock, the last what", x.dock(2, 6), 0);
        CHECK.due("the first dock, the first what", x.dock(0, 0), 7);
        CHECK.dueThrow("dock(3, 0)", () -> x.dock(3, 0));
        CHECK.dueThrow("dock(0, 7)", () -> x.dock(0, 7));
        CHECK.dueThrow("dock(3, 7)", () -> x.dock(3, 7));
        for (int far : FAR) {
            CHECK.dueThrow("dock(" + far + ", 0)", () -> x.dock(far, 0));
            CHECK.dueThrow("dock(0, " + far + ")", () -> x.dock(0, far));
        }
        PivotDocks most = Edges.most();
        CHECK.due("dock(7, 2)", most.dock(7, 2), 1);
        CHECK.dueThrow("dock(8, 2)", () -> most.dock(8, 2));
        PivotDocks fewer = Edges.most();
        Check.tell(fewer, "dock a;");
        CHECK.dueThrow("a dock of an earlier text", () -> fewer.dock(1, 0));
    }

    private static void wayOthers() {
        CHECK.sentence("5: 0 in THE TREE, 1 EMPTY, 2 FULL, 6: GAIN; NoSuchElementException: others, none such.");
        PivotDocks x = Edges.ended();
        CHECK.due("the last way, the last what", x.way(5, 6), 19992);
        CHECK.dueThrow("way(6, 0)", () -> x.way(6, 0));
        CHECK.dueThrow("way(0, 7)", () -> x.way(0, 7));
        for (int far : FAR) {
            CHECK.dueThrow("way(" + far + ", 0)", () -> x.way(far, 0));
            CHECK.dueThrow("way(0, " + far + ")", () -> x.way(0, far));
        }
        PivotDocks fewer = Edges.most();
        Check.tell(fewer, "dock a;");
        CHECK.dueThrow("a way of an earlier text", () -> fewer.way(1, 0));
    }

    private static void wayNone() {
        CHECK.sentence("Of a WAY, what 0, 1: the DOCK where it begins, ends (NONE: the HUB), 2: what it costs, 3: holds (NONE: a TENDER)");
        PivotDocks x = Edges.begun();
        int[][] ends = {{0, 1}, {1, 2}, {0, 2}, {0, -1}, {1, -1}, {-1, 2}};
        int[] holds = {9, 3, 5, -1, -1, -1};
        for (int way = 0; way < 6; way++) {
            CHECK.due("way(" + way + ", 0)", x.way(way, 0), ends[way][0]);
            CHECK.due("way(" + way + ", 1)", x.way(way, 1), ends[way][1]);
            CHECK.due("way(" + way + ", 3)", x.way(way, 3), holds[way]);
        }
    }

    private static void ranks() {
        CHECK.sentence("The DOCK with a PRICE such that k others come ahead of it (by PRICES, the lowest first, like ones by number); NONE: none such.");
        PivotDocks x = Check.told("dock a takes 1;dock b;dock c takes 1;dock d gives 2;");
        int[] want = {1, 3, 0, 2};
        for (int k = 0; k < 4; k++) {
            CHECK.due("ranked(" + k + ")", x.ranked(k), want[k]);
        }
        CHECK.due("ranked(4)", x.ranked(4), -1);
        for (int far : FAR) {
            CHECK.due("ranked(" + far + ")", x.ranked(far), -1);
        }
        PivotDocks near = Check.told("dock b takes 2;dock a gives 5;route r a b costs 1 holds 9;");
        near.run(9);
        CHECK.due("lower by one: ranked(0)", near.ranked(0), 1);
        CHECK.due("lower by one: ranked(1)", near.ranked(1), 0);
        near.toll(0, 0);
        CHECK.due("alike: ranked(0)", near.ranked(0), 0);
        CHECK.due("alike: ranked(1)", near.ranked(1), 1);
        PivotDocks most = Edges.most();
        CHECK.due("ranked(7) of eight", most.ranked(7), 7);
        CHECK.due("ranked(8) of eight", most.ranked(8), -1);
    }

    private static void howManyGood() {
        CHECK.sentence("`int good()`: How many WAYS are GOOD.");
        CHECK.due("none", Edges.ended().good(), 0);
        StringBuilder all = new StringBuilder("dock a;dock b takes 1;");
        for (int r = 0; r < 16; r++) {
            all.append("route r").append((char) ('a' + r)).append(" a b costs 0 holds 1;");
        }
        CHECK.due("sixteen", Check.told(all.toString()).good(), 16);
        PivotDocks x = Edges.goodTender();
        CHECK.due("a tender, too", x.good(), 1);
        CHECK.due("it enters", x.enters(), 2);
        CHECK.due("as many ways as can be, none is good", Edges.most().good(), 0);
        CHECK.due("as many ways as can be, routes are good", Edges.busy().good(), 16);
    }

    private static void entersAtTheEnd() {
        CHECK.sentence("The WAY that would ENTER now; -2: it is THE END.");
        CHECK.due("way 0", pair(1, 1, 1, 1).enters(), 0);
        CHECK.due("the end", Edges.ended().enters(), -2);
        CHECK.due("no routes", Check.told("dock a;").enters(), -2);
        CHECK.due("nothing told", new PivotDocks().enters(), -2);
    }

    private static void ringRefused() {
        CHECK.sentence("The k-th WAY (from 0 on) of the RING of a WAY; how many (k NONE); -2: it is in THE TREE, not so many");
        PivotDocks x = Edges.begun();
        CHECK.due("how many", x.ring(0, -1), 3);
        CHECK.due("the first", x.ring(0, 0), 3);
        CHECK.due("the last", x.ring(0, 2), 4);
        CHECK.due("not so many", x.ring(0, 3), -2);
        CHECK.due("not so many", x.ring(0, MAX), -2);
        for (int way = 3; way < 6; way++) {
            for (int k : new int[] {-1, 0, 1, MAX}) {
                CHECK.due("in the tree: ring(" + way + ", " + k + ")", x.ring(way, k), -2);
            }
        }
        PivotDocks y = Edges.chain();
        y.run(99);
        CHECK.due("the longest ring", y.ring(14, -1), 9);
        CHECK.due("its last", y.ring(14, 8), 7);
        CHECK.due("behind it", y.ring(14, 9), -2);
        // Back from b to a beside a route in the tree: two ways are the fewest.
        PivotDocks z = Check.told("dock a gives 1;dock b takes 1;route r a b costs 1 holds 5;route s b a costs 1 holds 5;");
        z.run(9);
        CHECK.due("the shortest ring", z.ring(1, -1), 2);
        CHECK.due("behind it", z.ring(1, 2), -2);
    }

    private static void ringNone() {
        CHECK.sentence("NONE: no such WAY, k below NONE.");
        PivotDocks x = Edges.begun();
        for (int way : new int[] {6, -1, MIN, MAX}) {
            for (int k : new int[] {-2, -1, 0, MAX}) {
                CHECK.due("ring(" + way + ", " + k + ")", x.ring(way, k), -1);
            }
        }
        CHECK.due("ring(0, -2)", x.ring(0, -2), -1);
        CHECK.due("ring(0, MIN)", x.ring(0, MIN), -1);
    }

    private static void closesHub() {
        CHECK.sentence("Of the RING of a WAY (whether it is GOOD or not), what 0: LOAD, 1: LEAVING, 2: APEX (100: the HUB)");
        PivotDocks x = Edges.begun();
        CHECK.due("0 is not good", x.way(0, 6) >= 0, true);
        dueCloses(x, 0, 7, 3, 100);
        dueCloses(x, 1, 0, 4, 100);
        PivotDocks y = Edges.ended();
        dueCloses(y, 1, 3, 0, 0);
        dueCloses(y, 4, 3, 3, 100);
        dueCloses(y, 5, 1, 2, 100);
    }

    private static void closesRefused() {
        CHECK.sentence("-2: it is in THE TREE; NONE: others, none such.");
        PivotDocks x = Edges.ended();
        for (int what = 0; what < 3; what++) {
            CHECK.due("closes(0, " + what + ")", x.closes(0, what), -2);
            CHECK.due("closes(3, " + what + ")", x.closes(3, what), -2);
            CHECK.due("closes(6, " + what + ")", x.closes(6, what), -1);
            CHECK.due("closes(-1, " + what + ")", x.closes(-1, what), -1);
            CHECK.due("closes(MIN, " + what + ")", x.closes(MIN, what), -1);
            CHECK.due("closes(MAX, " + what + ")", x.closes(MAX, what), -1);
        }
        for (int what : new int[] {-1, 3, MIN, MAX}) {
            CHECK.due("closes(1, " + what + ")", x.closes(1, what), -1);
        }
    }

    private static void strongTrees() {
        CHECK.sentence("1: each WAY in THE TREE with FLOW 0 goes towards the HUB (its end has the lesser DEPTH), each whose FLOW is what it holds away from it; 0: not so.");
        CHECK.due("no ways", new PivotDocks().strong(), 1);
        CHECK.due("a tender to the hub with 0", Check.told("dock a;").strong(), 1);
        PivotDocks x = Check.told("dock a takes 1;");
        CHECK.due("a tender from the hub with 1", x.strong(), 1);
        x.load(0, 1);
        CHECK.due("a tender from the hub with 0", x.strong(), 0);
        // After one pivot b hangs from a: the route goes away from the HUB.
        int[][] away = {{9, 9, 1}, {9, 8, 1}, {9, 1, 1}, {9, 0, 0}};
        for (int[] row : away) {
            PivotDocks y = pair(20, 5, 1, row[0]);
            y.step();
            if (row[1] != 5) {
                y.load(1, 5 - row[1]);
            }
            CHECK.due("away from the hub, holds 9, flow " + y.way(0, 4), y.strong(), row[2]);
        }
        // A hangs from b: the route goes towards the HUB.
        int[][] towards = {{0, 1}, {1, 1}, {8, 1}, {9, 0}};
        for (int[] row : towards) {
            PivotDocks y = pair(5, 20, 1, 9);
            y.step();
            y.load(0, row[0] - 5);
            CHECK.due("towards the hub, holds 9, flow " + y.way(0, 4), y.strong(), row[1]);
        }
        // What isn't in THE TREE counts nothing: a full route towards the HUB, an empty tender away from it.
        CHECK.due("at the end", Edges.ended().strong(), 1);
    }

    private static void stepAtTheEnd() {
        CHECK.sentence("A PIVOT: the WAY that ENTERED; -2, and nothing happens, at THE END.");
        PivotDocks x = Edges.begun();
        int[] entered = {1, 0, 2};
        for (int way : entered) {
            CHECK.due("step()", x.step(), way);
        }
        String before = View.of(x);
        CHECK.due("step() at the end", x.step(), -2);
        CHECK.same("nothing happens", View.of(x), before);
        CHECK.due("what was done last can be undone", x.undo(), 2);
        CHECK.due("and is done again", x.step(), 2);
    }

    private static void runs() {
        CHECK.sentence("PIVOTS, n (1 to 99) at most, till THE END: how many");
        for (int n = 1; n <= 6; n++) {
            PivotDocks x = Edges.chain();
            CHECK.due("run(" + n + ")", x.run(n), n);
            CHECK.due("pivots", x.count(5), n);
            CHECK.due("not the end", x.count(8), 0);
        }
        for (int n : new int[] {7, 8, 98, 99}) {
            PivotDocks x = Edges.chain();
            CHECK.due("run(" + n + ")", x.run(n), 7);
            CHECK.due("the end", x.count(8), 1);
            String before = View.of(x);
            CHECK.due("run(1) at the end", x.run(1), 0);
            CHECK.same("it is no act", View.of(x), before);
        }
    }

    /** Where two objects stand, in fewer calls than a View takes of a text as long as this. */
    private static void dueAlike(String when, PivotDocks x, PivotDocks twin) {
        CHECK.due("cost() " + when, x.cost(), twin.cost());
        for (int what : new int[] {3, 4, 5, 8, 9, 10}) {
            CHECK.due("count(" + what + ") " + when, x.count(what), twin.count(what));
        }
        for (int way = 0; way < 24; way++) {
            CHECK.due("flow of way " + way + " " + when, x.way(way, 4), twin.way(way, 4));
            CHECK.due("state of way " + way + " " + when, x.way(way, 5), twin.way(way, 5));
        }
    }

    /** Beside a twin that steps: 99 pivots are no end by themselves, and the next run() goes on from there. */
    private static void runOf99() {
        CHECK.sentence("PIVOTS, n (1 to 99) at most, till THE END: how many");
        PivotDocks x = Edges.farAway();
        PivotDocks twin = Edges.farAway();
        for (int k = 0; k < 99; k++) {
            CHECK.due("step() " + k + " is a pivot", twin.step() >= 0, true);
        }
        CHECK.due("run(99) far from the end", x.run(99), 99);
        CHECK.due("pivots", x.count(5), 99);
        CHECK.due("not the end", x.count(8), 0);
        CHECK.due("one act", x.count(6), 1);
        dueAlike("as by steps", x, twin);
        CHECK.due("run(99) goes on", x.run(99), 12);
        CHECK.due("the end", x.count(8), 1);
        CHECK.due("pivots", x.count(5), 111);
        CHECK.due("cost()", x.cost(), 22418);
        CHECK.due("total()", x.total(), 3532418);
        CHECK.due("proof()", x.proof(), 3532418);
        CHECK.same("sheet", Check.sheet(x), "i 23;j 7;n 125;v 51;w 106;x 8;");
        CHECK.due("undo() of 12 pivots", x.undo(), 1);
        CHECK.due("undo() of 99 pivots", x.undo(), 0);
        dueAlike("as begun", x, Edges.farAway());
        CHECK.due("run(98)", Edges.farAway().run(98), 98);
    }

    private static void runNone() {
        CHECK.sentence("NONE: another n.");
        for (int n : new int[] {0, -1, 100, 101, MIN, MAX}) {
            PivotDocks x = Edges.begun();
            String before = View.of(x);
            CHECK.due("run(" + n + ")", x.run(n), -1);
            CHECK.same("nothing happens", View.of(x), before);
            CHECK.due("run(" + n + ") at the end", Edges.ended().run(n), -1);
        }
    }

    private static void logOthers() {
        CHECK.sentence("THE LOG so many PIVOTS ago (0: the latest), what 0: what ENTERED, 1: LEAVING, 2: LOAD, 3: how many WAYS the RING had, 4: MOVED; NoSuchElementException: others, none such.");
        PivotDocks x = Edges.begun();
        CHECK.dueThrow("log(0, 0) at first", () -> x.log(0, 0));
        x.step();
        CHECK.due("log(0, 0)", x.log(0, 0), 1);
        CHECK.dueThrow("log(1, 0)", () -> x.log(1, 0));
        x.run(9);
        int[][] want = {{2, 5, 1, 3, 1}, {0, 1, 3, 4, 1}, {1, 4, 0, 3, 1}};
        for (int ago = 0; ago < 3; ago++) {
            for (int what = 0; what < 5; what++) {
                CHECK.due("log(" + ago + ", " + what + ")", x.log(ago, what), want[ago][what]);
            }
        }
        CHECK.dueThrow("log(3, 0)", () -> x.log(3, 0));
        CHECK.dueThrow("log(0, 5)", () -> x.log(0, 5));
        for (int far : FAR) {
            CHECK.dueThrow("log(" + far + ", 0)", () -> x.log(far, 0));
            CHECK.dueThrow("log(0, " + far + ")", () -> x.log(0, far));
        }
    }

    private static void dueTurned(PivotDocks x, int n) {
        for (int ago = 0; ago < Math.min(n, 16); ago++) {
            CHECK.due("of " + n + ", log(" + ago + ", 0)", x.log(ago, 0), Edges.turnedWay(n - 1 - ago));
            CHECK.due("of " + n + ", log(" + ago + ", 2)", x.log(ago, 2), Edges.turnedLoad(n - 1 - ago));
        }
    }

    private static void logOf16() {
        CHECK.sentence("THE LOG has the latest 16 PIVOTS since all was BEGUN.");
        int[] counts = {15, 16, 17, 18, 31, 32, 33, 40};
        for (int n : counts) {
            PivotDocks x = Edges.turned(n);
            CHECK.due("pivots", x.count(5), n);
            CHECK.due("in the log", x.count(4), Math.min(n, 16));
            dueTurned(x, n);
            CHECK.dueThrow("behind the oldest", () -> x.log(Math.min(n, 16), 0));
            CHECK.due("anew()", x.anew(), n);
            CHECK.dueThrow("begun anew it is empty", () -> x.log(0, 0));
            CHECK.due("begun anew it is empty", x.count(4), 0);
            x.step();
            x.undo();
            x.undo();
            dueTurned(x, n);
            x.keep(0, false);
            x.anew();
            x.run(3);
            x.keep(0, true);
            dueTurned(x, n);
        }
    }

    private static void bills() {
        CHECK.sentence("COST times f, and g; Integer.MIN_VALUE: that is no int.");
        PivotDocks x = pair(1, 1, 1, 1);
        x.step();
        CHECK.due("cost", x.cost(), 1);
        CHECK.due("bill(MAX, 0)", x.bill(MAX, 0), MAX);
        CHECK.due("bill(MAX, 1)", x.bill(MAX, 1), MIN);
        CHECK.due("bill(MIN, 0)", x.bill(MIN, 0), MIN);
        CHECK.due("bill(MIN, 1)", x.bill(MIN, 1), MIN + 1);
        CHECK.due("bill(MIN, -1)", x.bill(MIN, -1), MIN);
        CHECK.due("bill(MIN, MAX)", x.bill(MIN, MAX), -1);
        CHECK.due("bill(MAX, MIN)", x.bill(MAX, MIN), -1);
        CHECK.due("bill(MAX, MAX)", x.bill(MAX, MAX), MIN);
        CHECK.due("bill(MIN, MIN)", x.bill(MIN, MIN), MIN);
        CHECK.due("bill(0, MIN)", x.bill(0, MIN), MIN);
        CHECK.due("bill(0, MAX)", x.bill(0, MAX), MAX);
        PivotDocks y = Edges.dear();
        CHECK.due("the dearest", y.cost(), 998001);
        CHECK.due("bill(2151, 0)", y.bill(2151, 0), 998001 * 2151);
        CHECK.due("bill(2151, as much as goes)", y.bill(2151, MAX - 998001 * 2151), MAX);
        CHECK.due("one more", y.bill(2151, MAX - 998001 * 2151 + 1), MIN);
        CHECK.due("one time more", y.bill(2152, 0), MIN);
        CHECK.due("below", y.bill(-2152, 0), MIN);
        CHECK.due("back above by g", y.bill(-2152, MAX), -214505);
        CHECK.due("far out, and it would wrap to a small one", y.bill(1 << 30, 0), MIN);
        CHECK.due("f of MAX", y.bill(MAX, 0), MIN);
        CHECK.due("f of MIN", y.bill(MIN, 0), MIN);
    }

    private static void costs() {
        CHECK.sentence("COST: of all ROUTES FLOW times what they cost.");
        CHECK.due("no routes", Check.told("dock a gives 5;dock b takes 5;").cost(), 0);
        CHECK.due("nothing flows", Edges.begun().cost(), 0);
        PivotDocks free = pair(9, 9, 0, 9);
        free.run(9);
        CHECK.due("for nothing", free.cost(), 0);
        CHECK.due("full ones count", Edges.ended().cost(), 2 * 3 + 3 * 3 + 8);
        StringBuilder text = new StringBuilder();
        for (char d = 'a'; d <= 'h'; d++) {
            text.append("dock ").append(d).append(d == 'a' ? " gives 999;" : d == 'h' ? " takes 999;" : ";");
        }
        for (char d = 'a'; d < 'h'; d++) {
            text.append("route r").append(d).append(' ').append(d).append(' ').append((char) (d + 1)).append(" costs 999 holds 999;");
        }
        PivotDocks dear = Check.told(text.toString());
        dear.run(99);
        CHECK.due("seven routes, as dear and as full as can be", dear.cost(), 7 * 999 * 999);
        CHECK.due("nothing lacks", dear.total(), 7 * 999 * 999);
    }

    private static void totals() {
        CHECK.sentence("COST, and 10000 times FLOWS of all TENDERS.");
        CHECK.due("none", new PivotDocks().total(), 0);
        CHECK.due("both sorts of tenders", pair(9, 8, 1, 5).total(), 170000);
        StringBuilder most = new StringBuilder();
        for (char d = 'a'; d < 'i'; d++) {
            most.append("dock ").append(d).append(d % 2 == 0 ? " gives 999;" : " takes 999;");
        }
        CHECK.due("the most", Check.told(most.toString()).total(), 79920000);
        CHECK.due("as many ways as can be", Edges.busy().total(), 10000L * (60 + 63));
        CHECK.due("much lacks", Edges.muchLacking().total(), 10000L * 1993 + 2 * 5);
    }

    private static void lackNone() {
        CHECK.sentence("What 0: LACK of all DOCKS, 1: the first one with some (-2: none), 2: STUCK of all, 3: the first one with some (-2: none); NONE for others.");
        int[][] want = {{5, 1, 5, 2}, {0, -2, 0, -2}, {1, 0, 0, -2}, {0, -2, 1, 0}};
        String[] texts = {"dock a;dock b takes 2;dock c gives 4;dock d takes 3;dock e gives 1;", "dock a;dock b;", "dock a takes 1;", "dock a gives 1;"};
        for (int k = 0; k < texts.length; k++) {
            PivotDocks x = Check.told(texts[k]);
            for (int what = 0; what < 4; what++) {
                CHECK.due("lack(" + what + ") of " + texts[k], x.lack(what), want[k][what]);
            }
            for (int what : new int[] {-1, 4, MIN, MAX}) {
                CHECK.due("lack(" + what + ")", x.lack(what), -1);
            }
        }
        CHECK.due("the last dock alone", Check.told("dock a;dock b;dock c;dock d;dock e;dock f;dock g;dock h takes 1;").lack(1), 7);
        CHECK.due("the last dock alone", Check.told("dock a;dock b;dock c;dock d;dock e;dock f;dock g;dock h gives 1;").lack(3), 7);
        CHECK.due("at the end", Edges.ended().lack(1), -2);
        int[] busy = {63, 1, 60, 0};
        int[] most = {0, -2, 0, -2};
        for (int what = 0; what < 4; what++) {
            CHECK.due("as many ways as can be, lack(" + what + ")", Edges.busy().lack(what), busy[what]);
            CHECK.due("as many ways as can be, lack(" + what + ")", Edges.most().lack(what), most[what]);
            PivotDocks x = Edges.busy();
            x.run(9);
            Check.tell(x, "dock z;");
            CHECK.due("docks of an earlier text do not count, lack(" + what + ")", x.lack(what), most[what]);
        }
    }
}

/** The edges that "==== 3." of the document and promises 20 to 32 name, each sentence by itself. */
public final class AnewEdgesTest {
    private static final Check CHECK = new Check();
    private static final int MIN = Integer.MIN_VALUE;
    private static final int MAX = Integer.MAX_VALUE;

    public static void main(String[] args) {
        giftMovesFlows();
        giftRefused();
        tendersGoOn();
        costsTold();
        holdsRefused();
        triedChangesNothing();
        triedTillTheEnd();
        actsAndOthers();
        the12Last();
        eachActUndone();
        keepsHoldAll();
        keepsForgetActs();
        units();
        unitsByRoutes();
        unitsNoWay();
        ranges();
        rangesBySearch();
        rangeRefused();
        trials();
        trialsNone();
        loadsBy();
        loadRefusing();
        loadNone();
        spares();
        spareMuch();
        tolls();
        tollNone();
        holds();
        holdNone();
        blocks();
        begunAnew();
        sheetBytes();
        sheetRefused();
        sheetLongest();
        undoNone();
        keepFalse();
        counts();
        countNone();
        none();
        calls512();
        CHECK.end("AnewEdgesTest");
    }

    private static void dueFlows(PivotDocks x, int... want) {
        for (int way = 0; way < want.length; way++) {
            CHECK.due("way(" + way + ", 4)", x.way(way, 4), want[way]);
        }
    }

    // ---- told anew

    private static void giftMovesFlows() {
        CHECK.sentence("A GIFT told anew, by so much more (or less, below 0): FLOWS of all WAYS from that DOCK up to the HUB are more by it, if they are gone along, else less.");
        PivotDocks x = Edges.ended();
        CHECK.due("load(2, -3)", x.load(2, -3), 2);
        dueFlows(x, 3, 3, 4, 0, 0, 0);
        CHECK.due("load(2, 4)", x.load(2, 4), 2);
        dueFlows(x, 3, 3, 0, 4, 0, 0);
        CHECK.due("load(1, -4)", x.load(1, -4), 2);
        dueFlows(x, 7, 3, 0, 0, 0, 0);
        CHECK.due("load(0, 1)", x.load(0, 1), 1);
        dueFlows(x, 7, 3, 0, 1, 0, 0);
        // A tender from the hub is gone against.
        PivotDocks y = Edges.begun();
        y.load(2, 1);
        dueFlows(y, 0, 0, 0, 7, 0, 3);
        y.load(2, -2);
        dueFlows(y, 0, 0, 0, 7, 0, 5);
    }

    private static void giftRefused() {
        CHECK.sentence("It is refused, if one would be below 0 or above what it holds.");
        PivotDocks x = Edges.ended();
        CHECK.due("the route to 0", x.load(2, 1), 2);
        CHECK.due("the route below 0", x.load(2, 1), -4);
        x = Edges.ended();
        CHECK.due("the tender to 0", x.load(2, -3), 2);
        CHECK.due("the tender below 0", x.load(2, -1), -5);
        x.load(0, 5);
        CHECK.due("the route to what it holds", x.load(2, -1), 2);
        CHECK.due("it holds 5", x.way(2, 4), 5);
        CHECK.due("the route above what it holds", x.load(2, -1), -4);
        PivotDocks y = Check.told("dock a gives 1;dock b takes 1;");
        CHECK.due("a tender to the hub to 0", y.load(0, -1), 1);
        CHECK.due("a tender to the hub below 0", y.load(0, -1), -2);
        CHECK.due("a tender from the hub to 0", y.load(1, 1), 1);
        CHECK.due("a tender from the hub below 0", y.load(1, 1), -3);
    }

    private static void tendersGoOn() {
        CHECK.sentence("(TENDERS go on as they were BEGUN.)");
        PivotDocks x = Edges.begun();
        x.load(2, 4);
        CHECK.due("a gift of 0", x.dock(2, 0), 0);
        CHECK.due("its tender comes from the hub still", x.way(5, 0), -1);
        CHECK.due("it can't give", x.load(2, 1), -7);
        x.load(0, -7);
        CHECK.due("it goes to the hub still", x.way(3, 1), -1);
        CHECK.due("it can't take", x.load(0, -1), -5);
        x.anew();
        CHECK.due("begun anew, a gift of 0 goes to the hub", x.way(5, 1), -1);
        CHECK.due("then it can give", x.load(2, 1), 1);
        x.undo();
        x.undo();
        CHECK.due("undone it comes from the hub", x.way(5, 0), -1);
        // In the tree below others a gift can pass 0.
        PivotDocks y = Edges.ended();
        CHECK.due("m gives 3", y.load(1, 3), 2);
        CHECK.due("m takes 1", y.load(1, -4), 2);
        CHECK.due("gift", y.dock(1, 0), -1);
        CHECK.due("its tender goes to the hub still", y.way(4, 1), -1);
        CHECK.due("price", y.dock(1, 1), -9998);
    }

    private static void costsTold() {
        CHECK.sentence("Costs told anew: FLOWS and THE TREE stay.");
        int[] costs = {0, 999};
        for (int cost : costs) {
            for (int route = 0; route < 3; route++) {
                PivotDocks x = Edges.ended();
                x.toll(route, cost);
                dueFlows(x, 3, 3, 1, 3, 0, 0);
                int[] states = {0, 2, 0, 0, 1, 1};
                for (int way = 0; way < 6; way++) {
                    CHECK.due("way(" + way + ", 5)", x.way(way, 5), states[way]);
                }
                CHECK.due("the pointer", x.count(3), 0);
                CHECK.due("pivots", x.count(5), 3);
            }
        }
    }

    private static void holdsRefused() {
        CHECK.sentence("What a ROUTE holds told anew: refused, if it is FULL, or its FLOW is more.");
        for (int n : new int[] {1, 2, 4, 999}) {
            CHECK.due("it is full: hold(1, " + n + ")", Edges.ended().hold(1, n), -2);
        }
        CHECK.due("its flow is more", Edges.ended().hold(0, 1), -2);
        CHECK.due("its flow is one more", Edges.ended().hold(0, 2), -2);
        PivotDocks x = Edges.ended();
        CHECK.due("its flow is that", x.hold(0, 3), 9);
        CHECK.due("it is in the tree still", x.way(0, 5), 0);
        CHECK.due("full ways", x.count(9), 1);
        CHECK.due("its flow is less", Edges.ended().hold(0, 4), 9);
        CHECK.due("it is empty", Edges.begun().hold(1, 1), 3);
        CHECK.due("it is empty", Edges.begun().hold(1, 999), 3);
    }

    private static void triedChangesNothing() {
        CHECK.sentence("TRIED: with one number told anew all is BEGUN, and PIVOTS are made till THE END (nothing changes by it).");
        int[][] rows = {{0, 1, 9, 32}, {1, 2, 0, 15}, {2, 2, -9, 47}, {2, 0, -999, 0}, {0, 0, 2, 23}};
        for (int[] row : rows) {
            for (PivotDocks x : new PivotDocks[] {Edges.begun(), Edges.ended()}) {
                String before = View.of(x);
                CHECK.due("tried(" + row[0] + ", " + row[1] + ", " + row[2] + ")", x.tried(row[0], row[1], row[2], false), row[3]);
                CHECK.same("nothing changes", View.of(x), before);
            }
        }
        PivotDocks x = Edges.ended();
        x.load(0, -3);
        CHECK.due("gifts as they are now", x.tried(0, 1, 3, false), 23);
        x.load(2, 1);
        CHECK.due("gifts as they are now", x.tried(0, 1, 3, false), 15);
        x.toll(2, 0);
        CHECK.due("costs as they are now", x.tried(1, 1, 3, false), 0);
    }

    /** The end is 111 pivots away, where run() would stop ahead of it. */
    private static void triedTillTheEnd() {
        CHECK.sentence("PIVOTS are made till THE END (nothing changes by it).");
        PivotDocks x = Edges.farAway();
        CHECK.due("tried(0, 0, 8), as it costs", x.tried(0, 0, 8, false), 22418);
        CHECK.due("tried(1, 0, 23), as it holds", x.tried(1, 0, 23, false), 22418);
        CHECK.due("tried(2, 0, 348), as it gives", x.tried(2, 0, 348, false), 22418);
        CHECK.due("lacking then", x.tried(2, 0, 348, true), 0);
        CHECK.due("no pivot", x.count(5), 0);
    }

    private static void dueAct(String call, PivotDocks x, long answer, boolean act, int had) {
        CHECK.due(call + " (" + answer + ") is an act", x.count(6) == had + 1, act);
        CHECK.due(call + " (" + answer + ") leaves as many acts", x.count(6), had + (act ? 1 : 0));
    }

    private static void actsAndOthers() {
        CHECK.sentence("ACTS: step(), run() that make a PIVOT at least, load(), toll(), hold(), block(), anew(), unless refused");
        PivotDocks x = Edges.begun();
        dueAct("step()", x, x.step(), true, 0);
        dueAct("run(1)", x, x.run(1), true, 1);
        dueAct("run(0)", x, x.run(0), false, 2);
        dueAct("run(99)", x, x.run(99), true, 2);
        dueAct("run(99) at the end", x, x.run(99), false, 3);
        dueAct("step() at the end", x, x.step(), false, 3);
        dueAct("load(0, 1)", x, x.load(0, 1), true, 3);
        dueAct("load(0, 0)", x, x.load(0, 0), false, 4);
        dueAct("load(0, -5)", x, x.load(0, -5), false, 4);
        dueAct("toll(0, 5)", x, x.toll(0, 5), true, 4);
        dueAct("toll(0, 5) again", x, x.toll(0, 5), false, 5);
        dueAct("hold(0, 5)", x, x.hold(0, 5), true, 5);
        dueAct("hold(0, 5) again", x, x.hold(0, 5), false, 6);
        dueAct("hold(0, 1)", x, x.hold(0, 1), false, 6);
        dueAct("hold(1, 9) of a full one", x, x.hold(1, 9), false, 6);
        dueAct("block(5)", x, x.block(5), true, 6);
        dueAct("block(5) again", x, x.block(5), false, 7);
        dueAct("block(0)", x, x.block(0), false, 7);
        dueAct("anew()", x, x.anew(), true, 7);
        dueAct("anew() again", x, x.anew(), true, 8);
        dueAct("keep(0, false)", x, x.keep(0, false) ? 1 : 0, false, 9);
        dueAct("tried", x, x.tried(0, 0, 1, false), false, 9);
        dueAct("feed", x, x.feed(0, 0, 0, 0, 0), false, 9);
        dueAct("enters()", x, x.enters(), false, 9);
    }

    // ---- undone, kept

    private static void the12Last() {
        CHECK.sentence("the last 12 can be UNDONE, one by one: all is as ahead of it, but THE TAPE.");
        for (int acts : new int[] {0, 1, 11, 12, 13, 23, 24, 25}) {
            PivotDocks x = Edges.begun();
            for (int k = 1; k <= acts; k++) {
                CHECK.due("toll", x.toll(0, 100 + k), k == 1 ? 2 : 99 + k);
                CHECK.due("acts that can be undone", x.count(6), Math.min(k, 12));
            }
            int can = Math.min(acts, 12);
            for (int k = 1; k <= can; k++) {
                CHECK.due("undo() " + k + " of " + acts, x.undo(), can - k);
                CHECK.due("what it cost", x.way(0, 2), acts == k ? 2 : 100 + acts - k);
            }
            CHECK.due("undo() of no more", x.undo(), -1);
            CHECK.due("what it cost", x.way(0, 2), acts <= 12 ? 2 : 100 + acts - 12);
            CHECK.due("an act again", x.toll(0, 7), acts <= 12 ? 2 : 100 + acts - 12);
            CHECK.due("one can be undone", x.undo(), 0);
        }
        PivotDocks x = Edges.begun();
        Check.feed(x, "dock a;");
        x.toll(0, 9);
        Check.feed(x, "?");
        x.undo();
        CHECK.due("the tape stays", x.count(7), 40);
        x.text(7);
        CHECK.due("what is on it stays", x.count(0), 1);
    }

    private static void eachActUndone() {
        CHECK.sentence("all is as ahead of it");
        for (int act = 0; act < 9; act++) {
            for (PivotDocks x : new PivotDocks[] {Edges.begun(), halfWay(), Edges.muchLacking(), pointed()}) {
                String before = View.of(x);
                int had = x.count(6);
                makeAct(x, act);
                if (x.count(6) == had + 1) {
                    CHECK.due("something changed by act " + act, View.butTape(x).equals(before), false);
                    CHECK.due("undo()", x.undo(), had);
                }
                CHECK.same("all as ahead of act " + act, View.of(x), before);
            }
        }
    }

    /** The pointer is at way 2, as by blocks of one way 1 was the first that was good. */
    private static PivotDocks pointed() {
        PivotDocks x = Edges.begun();
        x.block(1);
        x.step();
        CHECK.due("the pointer", x.count(3), 2);
        return x;
    }

    private static PivotDocks halfWay() {
        PivotDocks x = Edges.begun();
        x.step();
        x.step();
        return x;
    }

    private static void makeAct(PivotDocks x, int act) {
        switch (act) {
            case 0: x.step(); break;
            case 1: x.run(99); break;
            case 2: x.load(0, 1); break;
            case 3: x.load(2, 1); break;
            case 4: x.toll(1, 500); break;
            case 5: x.hold(2, 998); break;
            case 6: x.block(3); break;
            case 7: x.anew(); break;
            default: x.toll(0, 0); break;
        }
    }

    private static void keepsHoldAll() {
        CHECK.sentence("KEEPS 0 and 1 hold all, but THE TAPE, as it is");
        PivotDocks twin = halfWay();
        PivotDocks x = halfWay();
        CHECK.due("keep(0, false)", x.keep(0, false), true);
        x.run(9);
        x.load(0, 1);
        x.toll(0, 9);
        x.hold(0, 8);
        x.block(2);
        CHECK.due("keep(1, false)", x.keep(1, false), true);
        PivotDocks other = halfWay();
        other.run(9);
        other.load(0, 1);
        other.toll(0, 9);
        other.hold(0, 8);
        other.block(2);
        x.anew();
        Check.feed(x, "dock");
        CHECK.due("keep(0, true)", x.keep(0, true), true);
        twin.keep(0, false);
        twin.keep(0, true);
        CHECK.same("as kept in 0", View.butTape(x), View.butTape(twin));
        CHECK.due("the tape stays", x.count(7), 20);
        CHECK.due("keep(1, true)", x.keep(1, true), true);
        other.keep(0, false);
        other.keep(0, true);
        CHECK.same("as kept in 1", View.butTape(x), View.butTape(other));
        PivotDocks y = pointed();
        y.keep(0, false);
        CHECK.due("a pivot more", y.step(), 2);
        y.anew();
        y.keep(0, true);
        CHECK.due("the pointer as kept", y.count(3), 2);
        CHECK.due("the log as kept", y.log(0, 0), 1);
        CHECK.due("pivots as kept", y.count(5), 1);
    }

    private static void keepsForgetActs() {
        CHECK.sentence("(nothing can be UNDONE when one is gone back to)");
        PivotDocks x = Edges.begun();
        x.toll(0, 9);
        x.keep(0, false);
        CHECK.due("laying one forgets nothing", x.count(6), 1);
        x.toll(0, 8);
        x.keep(0, true);
        CHECK.due("count(6)", x.count(6), 0);
        CHECK.due("undo()", x.undo(), -1);
        CHECK.due("it costs", x.way(0, 2), 9);
        x.toll(0, 7);
        CHECK.due("acts from there can be", x.undo(), 0);
        CHECK.due("it costs", x.way(0, 2), 9);
        x.toll(0, 6);
        CHECK.due("an empty one is not gone back to", x.keep(1, true), false);
        CHECK.due("nothing is forgotten then", x.count(6), 1);
        CHECK.due("nor by one that is none", x.keep(2, true), false);
        CHECK.due("nothing is forgotten then", x.undo(), 0);
    }

    // ---- at the end

    private static void units() {
        CHECK.sentence("along one whose FLOW is less than it holds what it costs, against one whose FLOW is above 0 as much less; 0 from one to itself");
        PivotDocks x = Edges.ended();
        int[][] want = {{0, 2, 8}, {-2, 0, 6}, {-8, -6, 0}};
        for (int from = 0; from < 3; from++) {
            for (int to = 0; to < 3; to++) {
                CHECK.due("unit(" + from + ", " + to + ")", x.unit(from, to), want[from][to]);
            }
        }
        x.load(2, 1);
        CHECK.due("ns has flow 0: not against it", x.unit(2, 0), -5);
        CHECK.due("along it", x.unit(0, 2), 8);
        x.undo();
        x.hold(2, 1);
        CHECK.due("ns holds no more: not along it", x.unit(0, 2), MIN);
        CHECK.due("against it", x.unit(2, 0), -8);
        PivotDocks y = Edges.chain();
        y.run(99);
        CHECK.due("seven routes back", y.unit(7, 0), -7);
        CHECK.due("not along, as all are full", y.unit(0, 7), MIN);
        CHECK.due("0 from one to itself", y.unit(7, 7), 0);
        String[] routes = {"route p a b costs 5 holds 1;", "route q a b costs 3 holds 1;", "route r a c costs 1 holds 1;", "route s c b costs 1 holds 1;"};
        int[][] orders = {{0, 1, 2, 3}, {3, 2, 1, 0}, {2, 3, 0, 1}, {1, 0, 3, 2}};
        for (int[] order : orders) {
            PivotDocks z = Check.told("dock a;dock b;dock c;" + routes[order[0]] + routes[order[1]] + routes[order[2]] + routes[order[3]]);
            CHECK.due("the least of three ways", z.unit(0, 1), 2);
            z.toll(order[0] == 3 ? 0 : order[1] == 3 ? 1 : order[2] == 3 ? 2 : 3, 9);
            CHECK.due("when c is dear, the lesser of two", z.unit(0, 1), 3);
        }
    }

    private static void unitsByRoutes() {
        CHECK.sentence("At THE END the least that one unit more from a DOCK to another one costs, by ROUTES");
        PivotDocks x = Check.told("dock a gives 9;dock b takes 9;route r a b costs 1 holds 4;route s a b costs 5 holds 4;");
        CHECK.due("not the end", x.unit(0, 1), MIN);
        x.run(9);
        CHECK.due("both are full, tenders do not count", x.unit(0, 1), MIN);
        CHECK.due("back, the dearer one saves more", x.unit(1, 0), -5);
        x.toll(1, 999);
        CHECK.due("the end still", x.count(8), 1);
        CHECK.due("back, as much less as it costs now", x.unit(1, 0), -999);
    }

    private static void unitsNoWay() {
        CHECK.sentence("Integer.MIN_VALUE: none such, it is not THE END, there is no way.");
        PivotDocks x = Edges.ended();
        for (int far : new int[] {3, -1, 8, 100, MIN, MAX}) {
            CHECK.due("unit(" + far + ", 0)", x.unit(far, 0), MIN);
            CHECK.due("unit(0, " + far + ")", x.unit(0, far), MIN);
            CHECK.due("unit(" + far + ", " + far + ")", x.unit(far, far), MIN);
        }
        CHECK.due("not the end", Edges.begun().unit(0, 1), MIN);
        CHECK.due("not the end, from one to itself", Edges.begun().unit(0, 0), MIN);
        PivotDocks y = Check.told("dock a;dock b;route r a b costs 3 holds 1;");
        CHECK.due("a way", y.unit(0, 1), 3);
        CHECK.due("no way back along nothing", y.unit(1, 0), MIN);
        CHECK.due("tenders are no ways for it", Check.told("dock a;dock b;").unit(0, 1), MIN);
        y.toll(0, 0);
        CHECK.due("a way for nothing", y.unit(0, 1), 0);
    }

    private static boolean endsAtCost(PivotDocks x, int route, int cost) {
        boolean told = x.toll(route, cost) != -1;
        boolean end = x.count(8) == 1;
        if (told) {
            x.undo();
        }
        return end;
    }

    private static void ranges() {
        CHECK.sentence("The least (most: the greatest) number (0 to 999) that a ROUTE could cost, all else as it is, so that it would be THE END (FLOWS, THE TREE stay)");
        int[][] want = {{0, 5}, {0, 6}, {5, 999}};
        PivotDocks x = Edges.ended();
        String before = View.of(x);
        for (int route = 0; route < 3; route++) {
            CHECK.due("range(" + route + ", false)", x.range(route, false), want[route][0]);
            CHECK.due("range(" + route + ", true)", x.range(route, true), want[route][1]);
        }
        CHECK.same("nothing changes", View.of(x), before);
        for (int route = 0; route < 3; route++) {
            for (int cost = 0; cost <= 999; cost++) {
                boolean within = cost >= want[route][0] && cost <= want[route][1];
                CHECK.due("the end at cost " + cost + " of " + route, endsAtCost(Edges.ended(), route, cost), within);
            }
        }
        PivotDocks y = Check.told("dock a;dock b;route r a b costs 0 holds 1;route s a b costs 999 holds 1;");
        for (int route = 0; route < 2; route++) {
            CHECK.due("the least is 0", y.range(route, false), 0);
            CHECK.due("the greatest is 999", y.range(route, true), 999);
        }
        // Way 0 is in the tree, way 1 costs as much: it can cost no more.
        PivotDocks z = Check.told("dock a gives 1;dock b takes 1;route r a b costs 4 holds 5;route s a b costs 4 holds 5;");
        z.run(9);
        CHECK.due("no more than it costs", z.range(0, true), 4);
        CHECK.due("no less than it costs", z.range(1, false), 4);
        z.toll(0, 0);
        CHECK.due("at 0", z.range(0, false), 0);
    }

    /** Texts whose trees have routes both towards the HUB and away from it, full ones beside them, and rings below both. */
    private static final String[] RANGED = {
        "dock a gives 9;dock b takes 4;dock c takes 5;route p a b costs 3 holds 2;route q a b costs 6 holds 9;route r b c costs 2 holds 9;"
            + "route s a c costs 7 holds 3;route t a c costs 9 holds 9;",
        "dock a gives 3;dock b gives 4;dock c takes 20;route p a b costs 3 holds 9;route q b c costs 6 holds 9;route r a c costs 8 holds 2;"
            + "route s b c costs 2 holds 3;route t a c costs 9 holds 9;",
        "dock a gives 5;dock b;dock c;dock d takes 5;route p a b costs 1 holds 4;route q b c costs 4 holds 9;route r c d costs 1 holds 9;"
            + "route s b d costs 5 holds 2;route t a c costs 6 holds 9;route u a d costs 8 holds 9;"};

    private static void rangesBySearch() {
        CHECK.sentence("all else as it is, so that it would be THE END");
        for (String text : RANGED) {
            PivotDocks x = Check.told(text);
            x.run(99);
            for (int route = 0; route < x.count(1); route++) {
                int least = 1000;
                int most = -1;
                for (int cost = 0; cost <= 999; cost++) {
                    PivotDocks y = Check.told(text);
                    y.run(99);
                    if (endsAtCost(y, route, cost)) {
                        least = Math.min(least, cost);
                        most = cost;
                    }
                }
                CHECK.due("range(" + route + ", false) of " + text, x.range(route, false), least);
                CHECK.due("range(" + route + ", true) of " + text, x.range(route, true), most);
            }
        }
    }

    private static void rangeRefused() {
        CHECK.sentence("-2: it is not THE END; NONE: none such.");
        CHECK.due("not the end", Edges.begun().range(0, false), -2);
        CHECK.due("not the end", Edges.begun().range(2, true), -2);
        PivotDocks x = Edges.ended();
        for (int far : new int[] {3, 5, 6, 16, -1, -2, MIN, MAX}) {
            CHECK.due("range(" + far + ", false)", x.range(far, false), -1);
            CHECK.due("range(" + far + ", true)", x.range(far, true), -1);
        }
        CHECK.due("the last route", x.range(2, true), 999);
        CHECK.due("the last route of as many as can be", Edges.most().range(15, true), 999);
        CHECK.due("the last route of as many as can be", Edges.most().range(15, false), 0);
        CHECK.due("behind it", Edges.most().range(16, false), -1);
    }

    private static void trials() {
        CHECK.sentence("TRIED, what 0: a ROUTE costs n (0 to 999), 1: it holds n (0 to 999), 2: a DOCK's GIFT is n (-999 to 999): COST then (lack: LACK of all DOCKS then)");
        PivotDocks x = Edges.begun();
        CHECK.due("ns costs 0", x.tried(0, 2, 0, false), 0);
        CHECK.due("ns costs 999", x.tried(0, 2, 999, false), 15 + 999);
        CHECK.due("ns holds 0", x.tried(1, 2, 0, false), 15);
        CHECK.due("ns holds 0, lack", x.tried(1, 2, 0, true), 1);
        CHECK.due("ns holds 999", x.tried(1, 2, 999, false), 23);
        CHECK.due("ms holds 0", x.tried(1, 1, 0, false), 32);
        CHECK.due("ms holds 999", x.tried(1, 1, 999, false), 20);
        CHECK.due("s takes 999", x.tried(2, 2, -999, false), 15 + 32);
        CHECK.due("s takes 999, lack", x.tried(2, 2, -999, true), 992);
        CHECK.due("s gives 999", x.tried(2, 2, 999, false), 0);
        CHECK.due("s gives 999, lack", x.tried(2, 2, 999, true), 0);
        CHECK.due("s gives 0", x.tried(2, 2, 0, false), 0);
        CHECK.due("n takes 999, lack", x.tried(2, 0, -999, true), 1003);
        PivotDocks none = Check.told("dock a gives 5;dock b takes 5;route r a b costs 1 holds 1;");
        CHECK.due("the one route holds 0", none.tried(1, 0, 0, false), 0);
        CHECK.due("the one route holds 0, lack", none.tried(1, 0, 0, true), 5);
        CHECK.due("the one route holds 1, as it does", none.tried(1, 0, 1, true), 4);
    }

    private static void trialsNone() {
        CHECK.sentence("COST then (lack: LACK of all DOCKS then); NONE: others, none such.");
        int[][] others = {{-1, 0, 1}, {3, 0, 1}, {MIN, 0, 1}, {MAX, 0, 1}, {0, 3, 1}, {0, -1, 1}, {0, MAX, 1}, {0, MIN, 1}, {0, 0, -1},
            {0, 0, 1000}, {0, 0, MIN}, {0, 0, MAX}, {1, 3, 1}, {1, -1, 1}, {1, 0, -1}, {1, 0, 1000}, {1, 0, MIN}, {1, 0, MAX},
            {2, 3, 0}, {2, -1, 0}, {2, MAX, 0}, {2, 0, 1000}, {2, 0, -1000}, {2, 0, MIN}, {2, 0, MAX}};
        PivotDocks x = Edges.begun();
        for (int[] row : others) {
            CHECK.due("tried(" + row[0] + ", " + row[1] + ", " + row[2] + ", false)", x.tried(row[0], row[1], row[2], false), -1);
            CHECK.due("tried(" + row[0] + ", " + row[1] + ", " + row[2] + ", true)", x.tried(row[0], row[1], row[2], true), -1);
        }
        // Four docks, one route: which is the last one depends on what.
        PivotDocks y = Check.told("dock a;dock b;dock c;dock d;route r a b costs 1 holds 1;");
        CHECK.due("a dock that is no route", y.tried(0, 1, 1, false), -1);
        CHECK.due("a dock that is no route", y.tried(1, 1, 1, false), -1);
        CHECK.due("the last dock", y.tried(2, 3, -1, true), 1);
        CHECK.due("behind the last dock", y.tried(2, 4, -1, true), -1);
    }

    // ---- load, spare

    private static void loadsBy() {
        CHECK.sentence("A DOCK's GIFT is more by so much (not 0; -999 to 999 then): how many WAYS have another FLOW");
        PivotDocks x = Check.told("dock a gives 1;dock b takes 1;");
        CHECK.due("to 999", x.load(0, 998), 1);
        CHECK.due("gift", x.dock(0, 0), 999);
        CHECK.due("to -999", x.load(1, -998), 1);
        CHECK.due("gift", x.dock(1, 0), -999);
        CHECK.due("back to 0", x.load(0, -999), 1);
        CHECK.due("back to 0", x.load(1, 999), 1);
        CHECK.due("by 1", x.load(0, 1), 1);
        CHECK.due("by -1", x.load(1, -1), 1);
        PivotDocks y = Edges.chain();
        y.run(99);
        for (int dock = 0; dock < 8; dock++) {
            CHECK.due("as many as its depth", y.load(dock, 1), dock + 1);
        }
        PivotDocks z = Edges.ended();
        CHECK.due("one way", z.load(0, 1), 1);
        CHECK.due("two ways", z.load(2, -1), 2);
    }

    private static void loadRefusing() {
        CHECK.sentence("-2 less the first WAY, from the DOCK up, that can't: refused");
        PivotDocks x = Edges.ended();
        String before = View.of(x);
        CHECK.due("way 0 can't", x.load(1, 4), -2);
        CHECK.due("ns can't, the tender could", x.load(2, 2), -4);
        CHECK.due("the tender can't, ns could", x.load(2, -4), -5);
        CHECK.due("both can't, ns is the first", x.load(2, -5), -4);
        CHECK.due("both can't, nm is the first", x.load(1, -7), -2);
        CHECK.due("the tender can't, nm could", x.load(1, -6), -5);
        CHECK.due("its own tender can't", x.load(0, -4), -5);
        CHECK.due("the gift could be, ns can't", x.load(2, -995), -4);
        CHECK.same("nothing happens", View.of(x), before);
        PivotDocks y = Edges.chain();
        y.run(99);
        CHECK.due("from the deepest up, the first one", y.load(7, -1), -8);
        y.hold(6, 10);
        CHECK.due("then the next one", y.load(7, -1), -7);
        for (int route = 5; route >= 0; route--) {
            y.hold(route, 10);
        }
        CHECK.due("then the tender, the last one", y.load(7, -1), -9);
        CHECK.due("none is there, way 23", lastTender().load(7, -1), -25);
    }

    private static PivotDocks lastTender() {
        PivotDocks x = Edges.most();
        CHECK.due("the tender of the last dock", x.dock(7, 3), 23);
        return x;
    }

    private static void loadNone() {
        CHECK.sentence("refused; NONE: others, none such.");
        PivotDocks x = Edges.ended();
        String before = View.of(x);
        CHECK.due("by 0", x.load(0, 0), -1);
        CHECK.due("to 1000", x.load(0, 993), -1);
        CHECK.due("to -1000", x.load(2, -996), -1);
        for (int by : new int[] {MIN, MIN + 1, MIN + 4, -100000, 100000, MAX - 7, MAX}) {
            for (int dock = 0; dock < 3; dock++) {
                CHECK.due("load(" + dock + ", " + by + ")", x.load(dock, by), -1);
            }
        }
        for (int dock : new int[] {3, 8, -1, MIN, MAX}) {
            CHECK.due("load(" + dock + ", 1)", x.load(dock, 1), -1);
        }
        CHECK.same("nothing happens", View.of(x), before);
        CHECK.due("to 999", x.load(0, 992), 1);
    }

    private static void spares() {
        CHECK.sentence("By how much at most a DOCK's GIFT could be more (less: less) so that it isn't refused (whatever the GIFT is then)");
        int[] more = {1000000, 3, 1};
        int[] less = {3, 3, 3};
        for (int dock = 0; dock < 3; dock++) {
            PivotDocks x = Edges.ended();
            CHECK.due("spare(" + dock + ", false)", x.spare(dock, false), more[dock]);
            CHECK.due("spare(" + dock + ", true)", x.spare(dock, true), less[dock]);
            CHECK.due("so much less is not refused", x.load(dock, -less[dock]) > 0, true);
            x = Edges.ended();
            CHECK.due("one less is refused", x.load(dock, -less[dock] - 1) < -1, true);
            if (more[dock] < 1000000) {
                CHECK.due("so much more is not refused", x.load(dock, more[dock]) > 0, true);
                x = Edges.ended();
                CHECK.due("one more is refused", x.load(dock, more[dock] + 1) < -1, true);
            }
        }
        PivotDocks x = Edges.chain();
        x.run(99);
        CHECK.due("the routes hold no more", x.spare(7, true), 0);
        CHECK.due("as much as flows", x.spare(7, false), 9);
        CHECK.due("the tender has nothing", x.spare(0, true), 0);
        PivotDocks y = Check.told("dock a gives 900;dock b takes 900;");
        CHECK.due("the gift could be as low", y.spare(0, true), 900);
        CHECK.due("the gift could be as high", y.spare(1, false), 900);
        PivotDocks z = Edges.muchLacking();
        CHECK.due("y could be 1993 more, though a gift of 994 can't be told at once", z.spare(1, false), 1993);
        CHECK.due("a gift out of what can be is no gift", z.load(1, 1993 + 6), -1);
    }

    private static void spareMuch() {
        CHECK.sentence("1000000: as much as one likes; NONE: none such.");
        PivotDocks x = Check.told("dock a gives 999;dock b takes 999;dock c;");
        CHECK.due("a could give more", x.spare(0, false), 1000000);
        CHECK.due("though its gift is 999", x.load(0, 1), -1);
        CHECK.due("b could take more", x.spare(1, true), 1000000);
        CHECK.due("though its gift is -999", x.load(1, -1), -1);
        CHECK.due("c could give", x.spare(2, false), 1000000);
        CHECK.due("c could not take", x.spare(2, true), 0);
        for (int dock : new int[] {3, 8, -1, MIN, MAX}) {
            CHECK.due("spare(" + dock + ", false)", x.spare(dock, false), -1);
            CHECK.due("spare(" + dock + ", true)", x.spare(dock, true), -1);
        }
        CHECK.due("a route on the way up bounds it", Edges.muchLacking().spare(2, true), 0);
        CHECK.due("tender behind a route", Edges.muchLacking().spare(2, false), 999);
    }

    // ---- toll, hold, block, anew

    private static void tolls() {
        CHECK.sentence("What a ROUTE costs (0 to 999): what it cost");
        PivotDocks x = Edges.begun();
        CHECK.due("to 0", x.toll(0, 0), 2);
        CHECK.due("to 999", x.toll(0, 999), 0);
        CHECK.due("back", x.toll(0, 2), 999);
        CHECK.due("the last route", x.toll(2, 1), 8);
        CHECK.due("it costs", x.way(2, 2), 1);
        CHECK.due("a full one", Edges.ended().toll(1, 4), 3);
    }

    private static void tollNone() {
        CHECK.sentence("what it cost; NONE: others, none such, it costs that.");
        PivotDocks x = Edges.ended();
        String before = View.of(x);
        for (int n : new int[] {-1, 1000, 10000, MIN, MAX}) {
            CHECK.due("toll(0, " + n + ")", x.toll(0, n), -1);
        }
        for (int route : new int[] {3, 5, 6, 16, -1, MIN, MAX}) {
            CHECK.due("toll(" + route + ", 5)", x.toll(route, 5), -1);
        }
        int[] costs = {2, 3, 8};
        for (int route = 0; route < 3; route++) {
            CHECK.due("it costs that", x.toll(route, costs[route]), -1);
        }
        CHECK.same("nothing happens", View.of(x), before);
    }

    private static void holds() {
        CHECK.sentence("What a ROUTE holds (1 to 999): what it held; -2: refused");
        PivotDocks x = Edges.begun();
        CHECK.due("to 1", x.hold(0, 1), 9);
        CHECK.due("to 999", x.hold(0, 999), 1);
        CHECK.due("the last route", x.hold(2, 6), 5);
        CHECK.due("it holds", x.way(2, 3), 6);
        PivotDocks y = Edges.ended();
        String before = View.of(y);
        CHECK.due("refused, it is full", y.hold(1, 4), -2);
        CHECK.due("refused, its flow is more", y.hold(0, 2), -2);
        CHECK.same("nothing happens", View.of(y), before);
    }

    private static void holdNone() {
        CHECK.sentence("-2: refused; NONE: others, none such, it holds that.");
        PivotDocks x = Edges.ended();
        String before = View.of(x);
        for (int n : new int[] {0, -1, 1000, 1000000, MIN, MAX}) {
            CHECK.due("hold(0, " + n + ")", x.hold(0, n), -1);
        }
        for (int route : new int[] {3, 5, 6, 16, -1, MIN, MAX}) {
            CHECK.due("hold(" + route + ", 5)", x.hold(route, 5), -1);
        }
        CHECK.due("it holds that", x.hold(0, 9), -1);
        CHECK.due("it holds that", x.hold(2, 5), -1);
        CHECK.same("nothing happens", View.of(x), before);
    }

    private static void blocks() {
        CHECK.sentence("The number of block (1 to 24): what it was; NONE: another one, it is that.");
        PivotDocks x = Edges.begun();
        CHECK.due("to 1", x.block(1), 24);
        CHECK.due("to 24", x.block(24), 1);
        String before = View.of(x);
        for (int n : new int[] {0, -1, 25, 24, MIN, MAX}) {
            CHECK.due("block(" + n + ")", x.block(n), -1);
        }
        CHECK.same("nothing happens", View.of(x), before);
        CHECK.due("of a new object", new PivotDocks().block(4), -1);
        CHECK.due("of a new object", new PivotDocks().block(5), 4);
    }

    private static void begunAnew() {
        CHECK.sentence("All is BEGUN, by GIFTS, costs, holds as they are: how many PIVOTS there were since it was BEGUN last.");
        CHECK.due("of a new object", new PivotDocks().anew(), 0);
        CHECK.due("at first", Edges.begun().anew(), 0);
        PivotDocks x = Edges.ended();
        CHECK.due("behind three", x.anew(), 3);
        CHECK.due("behind none", x.anew(), 0);
        CHECK.due("undone", x.undo(), 4);
        CHECK.due("undone", x.undo(), 3);
        CHECK.due("three again", x.anew(), 3);
        CHECK.due("behind more than the log has", Edges.turned(40).anew(), 40);
        PivotDocks z = pointed();
        z.anew();
        CHECK.due("the pointer is way 0 again", z.count(3), 0);
        CHECK.due("block stays", z.count(2), 1);
        CHECK.due("the first one enters again", z.step(), 1);
        PivotDocks y = Edges.ended();
        y.load(2, 1);
        y.load(0, -4);
        y.toll(0, 999);
        y.hold(2, 1);
        y.block(1);
        y.anew();
        CHECK.same("as told so at first", View.butTape(y).replaceFirst("count6 \\d+", ""),
            View.butTape(Check.told("dock n gives 3;dock m;dock s takes 3;route nm n m costs 999 holds 9;"
                + "route ms m s costs 3 holds 3;route ns n s costs 8 holds 1;block 1;")).replaceFirst("count6 \\d+", ""));
    }

    // ---- sheet, undo, keep, count

    private static void sheetBytes() {
        CHECK.sentence("The ROUTES whose FLOW is above 0, by number, as a text: the NAME, a blank, the FLOW, a ; each: byte i; how many bytes (i NONE)");
        CHECK.due("none flows", Edges.begun().sheet(-1), 0);
        CHECK.same("three flow", Check.sheet(Edges.ended()), "nm 3;ms 3;ns 1;");
        PivotDocks x = Edges.ended();
        x.load(2, 1);
        CHECK.same("a flow of 0", Check.sheet(x), "nm 3;ms 3;");
        for (int flow : new int[] {1, 9, 10, 99, 100, 101, 110, 900, 999}) {
            PivotDocks y = Check.told("dock a gives " + flow + ";dock b takes " + flow + ";route z a b costs 1 holds 999;");
            y.run(9);
            CHECK.same("a flow of " + flow, Check.sheet(y), "z " + flow + ";");
        }
        for (String name : new String[] {"a", "zz", "abc", "zyxw", "aaaaa", "zzzzzz"}) {
            PivotDocks y = Check.told("dock no gives 5;dock or takes 5;route " + name + " no or costs 1 holds 9;");
            y.run(9);
            CHECK.same("a name", Check.sheet(y), name + " 5;");
            CHECK.due("how many bytes", y.sheet(-1), name.length() + 3);
        }
    }

    private static void sheetRefused() {
        CHECK.sentence("-2: not so many; NONE: i below NONE.");
        PivotDocks x = Edges.ended();
        CHECK.due("the first", x.sheet(0), 'n');
        CHECK.due("the last", x.sheet(14), ';');
        CHECK.due("behind it", x.sheet(15), -2);
        CHECK.due("sheet(192)", x.sheet(192), -2);
        CHECK.due("sheet(MAX)", x.sheet(MAX), -2);
        CHECK.due("sheet(-2)", x.sheet(-2), -1);
        CHECK.due("sheet(MIN)", x.sheet(MIN), -1);
        CHECK.due("an empty one", Edges.begun().sheet(0), -2);
        CHECK.due("an empty one, below NONE", Edges.begun().sheet(-2), -1);
    }

    private static void sheetLongest() {
        CHECK.sentence("as a text: the NAME, a blank, the FLOW, a ; each");
        StringBuilder text = new StringBuilder("dock a gives999;dock b takes999;dock c gives999;dock d takes999;");
        StringBuilder want = new StringBuilder();
        for (int r = 0; r < 16; r++) {
            String name = "abcde" + (char) ('a' + r);
            text.append("route ").append(name).append(r < 8 ? " a b" : " c d").append(" costs1holds124;");
            want.append(name).append(" 124;");
        }
        PivotDocks x = Check.told(text.toString());
        CHECK.due("run(99)", x.run(99), 16);
        CHECK.due("how many bytes", x.sheet(-1), 176);
        CHECK.same("sixteen, with as long names and flows as can be", Check.sheet(x), want.toString());
        CHECK.due("behind the last", x.sheet(176), -2);
    }

    private static void undoNone() {
        CHECK.sentence("The latest ACT is UNDONE: how many can be still; NONE: none can be.");
        CHECK.due("of a new object", new PivotDocks().undo(), -1);
        PivotDocks x = Edges.begun();
        CHECK.due("at first", x.undo(), -1);
        String before = View.of(x);
        x.step();
        x.step();
        CHECK.due("two acts, one undone", x.undo(), 1);
        CHECK.due("none left", x.undo(), 0);
        CHECK.due("none can be", x.undo(), -1);
        CHECK.same("nothing happens", View.of(x), before);
    }

    private static void keepFalse() {
        CHECK.sentence("A KEEP is laid (back: gone back to): true; false: none such, nothing is in it (back).");
        for (int k : new int[] {-1, 2, 3, MIN, MAX}) {
            PivotDocks x = Edges.begun();
            x.step();
            String before = View.of(x);
            CHECK.due("keep(" + k + ", false)", x.keep(k, false), false);
            CHECK.due("keep(" + k + ", true)", x.keep(k, true), false);
            CHECK.same("nothing happens", View.of(x), before);
        }
        for (int k = 0; k < 2; k++) {
            PivotDocks x = Edges.begun();
            x.step();
            String before = View.of(x);
            CHECK.due("nothing is in it", x.keep(k, true), false);
            CHECK.same("nothing happens", View.of(x), before);
            CHECK.due("laid", x.keep(k, false), true);
            CHECK.due("nothing is in the other one", x.keep(1 - k, true), false);
            CHECK.due("gone back to", x.keep(k, true), true);
            CHECK.due("and once more", x.keep(k, true), true);
            x.block(3);
            CHECK.due("laid anew", x.keep(k, false), true);
            x.block(4);
            CHECK.due("gone back to", x.keep(k, true), true);
            CHECK.due("what was laid last", x.count(2), 3);
        }
        CHECK.due("of a new object", new PivotDocks().keep(0, false), true);
    }

    private static void counts() {
        CHECK.sentence("What 0: DOCKS, 1: ROUTES, 2: block, 3: the POINTER, 4: PIVOTS in THE LOG, 5: PIVOTS since all was BEGUN, 6: ACTS that can be UNDONE, 7: bytes on THE TAPE, 8: 1 at THE END, else 0, 9: FULL WAYS, 10: ROUTES in THE TREE.");
        int[] begun = {3, 3, 24, 0, 0, 0, 0, 0, 0, 0, 0};
        int[] ended = {3, 3, 24, 0, 3, 3, 3, 0, 1, 1, 2};
        for (int what = 0; what <= 10; what++) {
            CHECK.due("count(" + what + ") at first", Edges.begun().count(what), begun[what]);
            CHECK.due("count(" + what + ") at the end", Edges.ended().count(what), ended[what]);
        }
        CHECK.due("as many docks as can be", Edges.most().count(0), 8);
        CHECK.due("as many routes as can be", Edges.most().count(1), 16);
        CHECK.due("in the log", Edges.turned(17).count(4), 16);
        CHECK.due("pivots", Edges.turned(17).count(5), 17);
        CHECK.due("acts", Edges.turned(17).count(6), 12);
        PivotDocks x = Edges.chain();
        x.run(99);
        CHECK.due("routes in the tree", x.count(10), 7);
        PivotDocks y = Check.told("dock a gives 9;dock b takes 9;route p a b costs 1 holds 1;route q a b costs 1 holds 1;");
        y.run(99);
        CHECK.due("full ways", y.count(9), 2);
        CHECK.due("of as many ways as can be none is full", Edges.most().count(9), 0);
        CHECK.due("of as many ways as can be", Edges.busy().count(8), 0);
        CHECK.due("routes in the tree", y.count(10), 0);
    }

    private static void countNone() {
        CHECK.sentence("NONE for another what.");
        for (int what : new int[] {-1, -2, 11, 12, 100, MIN, MAX}) {
            CHECK.due("count(" + what + ")", Edges.ended().count(what), -1);
            CHECK.due("count(" + what + ") of a new object", new PivotDocks().count(what), -1);
        }
    }

    private static void none() {
        CHECK.sentence("`NONE = -1`: None.");
        CHECK.due("NONE", PivotDocks.NONE, -1);
    }

    private static void calls512() {
        CHECK.sentence("An object is used for at most 512 calls after it has been made");
        PivotDocks x = new PivotDocks();
        String text = "dock a gives 9;dock b takes 9;route r a b costs 1 holds 4;route s a b costs 2 holds 9;";
        int calls = 0;
        for (int at = 0; at < text.length(); at += 20) {
            x.feed(Check.four(text, at), Check.four(text, at + 4), Check.four(text, at + 8), Check.four(text, at + 12), Check.four(text, at + 16));
            calls++;
        }
        CHECK.due("text", x.text(text.length()), 2);
        CHECK.due("run(99)", x.run(99), 2);
        calls += 2;
        int turned = 0;
        while (calls <= 508) {
            CHECK.due("toll " + calls, x.toll(0, turned % 2 == 0 ? 9 : 1), turned % 2 == 0 ? 1 : 9);
            CHECK.due("step " + calls, x.step(), 0);
            turned++;
            calls += 2;
        }
        CHECK.due("pivots", x.count(5), 2 + turned);
        CHECK.due("the log", x.log(15, 0), 0);
        CHECK.due("the last call of 512", x.cost(), turned % 2 == 0 ? 14 : 18);
    }
}

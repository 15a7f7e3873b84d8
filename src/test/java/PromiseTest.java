/** Promises 4 to 32, on a text whose pivots were gone through by hand. */
public final class PromiseTest {
    private static final Check CHECK = new Check();
    private static final int MIN = Integer.MIN_VALUE;
    private static final int MAX = Integer.MAX_VALUE;
    // Ways: 0 nm, 1 ms, 2 ns; tenders 3 of n (to the hub, 7), 4 of m (to the hub, 0), 5 of s (from the hub, 4).
    private static final String TEXT = "dock n gives 7;dock m;dock s takes 4;route nm n m costs 2 holds 9;"
        + "route ms m s costs 3 holds 3;route ns n s costs 8 holds 5;block 24;";

    public static void main(String[] args) {
        docks();
        ways();
        ranks();
        goodOnes();
        blocks();
        rings();
        closing();
        strongTrees();
        steps();
        runs();
        logs();
        sums();
        bills();
        lacks();
        units();
        ranges();
        trials();
        loads();
        spares();
        tolls();
        holds();
        blockTold();
        begunAnew();
        sheets();
        undone();
        kept();
        counts();
        CHECK.end("PromiseTest");
    }

    private static PivotDocks begun() {
        return Check.told(TEXT);
    }

    private static PivotDocks stepped(int n) {
        PivotDocks x = begun();
        for (int k = 0; k < n; k++) {
            x.step();
        }
        return x;
    }

    private static PivotDocks ended() {
        return stepped(3);
    }

    private static void dueDock(PivotDocks x, int dock, int... want) {
        for (int what = 0; what < want.length; what++) {
            CHECK.due("dock(" + dock + ", " + what + ")", x.dock(dock, what), want[what]);
        }
    }

    private static void docks() {
        PivotDocks x = begun();
        dueDock(x, 0, 7, -10000, 1, 3, 1, 0, 7);
        dueDock(x, 1, 0, -10000, 1, 4, 1, 0, 0);
        dueDock(x, 2, -4, 10000, 1, 5, 1, 4, 0);
        x.step();
        dueDock(x, 1, 0, 9997, 2, 1, 1, 0, 0);
        dueDock(x, 2, -4, 10000, 1, 5, 2, 4, 0);
        x.run(9);
        dueDock(x, 0, 7, -10000, 1, 3, 3, 0, 3);
        dueDock(x, 1, 0, -9998, 2, 0, 1, 0, 0);
        dueDock(x, 2, -4, -9992, 2, 2, 1, 0, 0);
        CHECK.dueThrow("dock(3, 0)", () -> x.dock(3, 0));
        CHECK.dueThrow("dock(-1, 0)", () -> x.dock(-1, 0));
        CHECK.dueThrow("dock(MIN, 0)", () -> x.dock(MIN, 0));
        CHECK.dueThrow("dock(MAX, 0)", () -> x.dock(MAX, 0));
        CHECK.dueThrow("dock(0, 7)", () -> x.dock(0, 7));
        CHECK.dueThrow("dock(0, -1)", () -> x.dock(0, -1));
        CHECK.dueThrow("dock(0, 0) of none", () -> new PivotDocks().dock(0, 0));
    }

    private static void dueWay(PivotDocks x, int way, int... want) {
        for (int what = 0; what < want.length; what++) {
            CHECK.due("way(" + way + ", " + what + ")", x.way(way, what), want[what]);
        }
    }

    private static void ways() {
        PivotDocks x = begun();
        dueWay(x, 0, 0, 1, 2, 9, 0, 1, 2);
        dueWay(x, 1, 1, 2, 3, 3, 0, 1, -19997);
        dueWay(x, 3, 0, -1, 10000, -1, 7, 0, 0);
        dueWay(x, 5, -1, 2, 10000, -1, 4, 0, 0);
        x.run(3);
        dueWay(x, 0, 0, 1, 2, 9, 3, 0, 0);
        dueWay(x, 1, 1, 2, 3, 3, 3, 2, -3);
        dueWay(x, 2, 0, 2, 8, 5, 1, 0, 0);
        dueWay(x, 4, 1, -1, 10000, -1, 0, 1, 2);
        dueWay(x, 5, -1, 2, 10000, -1, 0, 1, 19992);
        CHECK.dueThrow("way(6, 0)", () -> x.way(6, 0));
        CHECK.dueThrow("way(-1, 0)", () -> x.way(-1, 0));
        CHECK.dueThrow("way(MAX, 0)", () -> x.way(MAX, 0));
        CHECK.dueThrow("way(0, 7)", () -> x.way(0, 7));
        CHECK.dueThrow("way(0, -1)", () -> x.way(0, -1));
        CHECK.dueThrow("way(0, 0) of none", () -> new PivotDocks().way(0, 0));
    }

    private static void dueRanks(PivotDocks x, int... want) {
        for (int k = 0; k < want.length; k++) {
            CHECK.due("ranked(" + k + ")", x.ranked(k), want[k]);
        }
    }

    private static void ranks() {
        dueRanks(begun(), 0, 1, 2, -1);
        dueRanks(stepped(1), 0, 1, 2, -1);
        dueRanks(Check.told("dock a takes 1;dock b;dock c takes 1;dock d gives 2;"), 1, 3, 0, 2, -1);
        CHECK.due("ranked(-1)", begun().ranked(-1), -1);
        CHECK.due("ranked(MAX)", begun().ranked(MAX), -1);
        CHECK.due("ranked(MIN)", begun().ranked(MIN), -1);
    }

    private static void goodOnes() {
        int[] good = {2, 2, 1, 0};
        int[] enters = {1, 0, 2, -2};
        for (int n = 0; n < 4; n++) {
            CHECK.due("good() behind " + n, stepped(n).good(), good[n]);
            CHECK.due("enters() behind " + n, stepped(n).enters(), enters[n]);
            CHECK.due("enters() changes nothing", stepped(n).count(3), 0);
        }
        PivotDocks x = ended();
        x.toll(1, 9);
        CHECK.due("good() of a full one", x.good(), 1);
        CHECK.due("enters() of a full one", x.enters(), 1);
    }

    private static void blocks() {
        String docks = "dock a gives 9;dock b takes 9;";
        // Gains of all four routes are below 0; those of like cost are alike.
        String routes = "route p a b costs 7 holds 1;route q a b costs 5 holds 1;route r a b costs 5 holds 1;route s a b costs 1 holds 1;";
        int[][] want = {{1, 0, 1}, {2, 1, 2}, {3, 1, 3}, {4, 3, 4}, {5, 3, 5}, {6, 3, 0}, {24, 3, 0}};
        for (int[] row : want) {
            PivotDocks x = Check.told(docks + routes + "block " + row[0] + ";");
            CHECK.due("enters() by blocks of " + row[0], x.enters(), row[1]);
            CHECK.due("step() by blocks of " + row[0], x.step(), row[1]);
            CHECK.due("the pointer then", x.count(3), row[2]);
        }
        PivotDocks x = Check.told(docks + "route t b a costs 1 holds 1;route u b a costs 1 holds 1;route v b a costs 1 holds 1;"
            + routes + "block 2;");
        CHECK.due("a block goes on behind one with none", x.step(), 3);
        CHECK.due("pointer behind 0, 1 | 2, 3", x.count(3), 4);
        x.block(4);
        CHECK.due("from the pointer on", x.step(), 6);
        CHECK.due("pointer behind 4, 5, 6, 7", x.count(3), 8);
        x.block(5);
        CHECK.due("behind the last one the first one, the last block cut short, of like ones the first", x.step(), 4);
        CHECK.due("pointer behind 8, 0, 1, 2, 3 | 4, 5, 6, 7", x.count(3), 8);
    }

    private static void dueRing(PivotDocks x, int way, int... want) {
        CHECK.due("ring(" + way + ", -1)", x.ring(way, -1), want.length);
        for (int k = 0; k < want.length; k++) {
            CHECK.due("ring(" + way + ", " + k + ")", x.ring(way, k), want[k]);
        }
        CHECK.due("ring behind the last", x.ring(way, want.length), -2);
        CHECK.due("ring(way, MAX)", x.ring(way, MAX), -2);
    }

    private static void rings() {
        PivotDocks x = begun();
        dueRing(x, 0, 3, 0, 4);
        dueRing(x, 1, 4, 1, 5);
        CHECK.due("ring of one in the tree", x.ring(3, 0), -2);
        CHECK.due("ring of one in the tree, how many", x.ring(3, -1), -2);
        CHECK.due("ring(6, 0)", x.ring(6, 0), -1);
        CHECK.due("ring(-1, 0)", x.ring(-1, 0), -1);
        CHECK.due("ring(0, -2)", x.ring(0, -2), -1);
        CHECK.due("ring(0, MIN)", x.ring(0, MIN), -1);
        x.step();
        dueRing(x, 0, 3, 0, 1, 5);
        dueRing(x, 4, 5, 1, 4);
        x.run(2);
        dueRing(x, 1, 2, 1, 0);
        dueRing(x, 4, 3, 0, 4);
        dueRing(x, 5, 5, 2, 3);
    }

    private static void dueCloses(PivotDocks x, int way, int load, int leaving, int apex) {
        CHECK.due("closes(" + way + ", 0)", x.closes(way, 0), load);
        CHECK.due("closes(" + way + ", 1)", x.closes(way, 1), leaving);
        CHECK.due("closes(" + way + ", 2)", x.closes(way, 2), apex);
    }

    private static void closing() {
        PivotDocks x = begun();
        dueCloses(x, 0, 7, 3, 100);
        dueCloses(x, 1, 0, 4, 100);
        dueCloses(x, 2, 4, 5, 100);
        x.step();
        dueCloses(x, 0, 3, 1, 100);
        dueCloses(x, 2, 4, 5, 100);
        x.run(2);
        dueCloses(x, 1, 3, 0, 0);
        dueCloses(x, 4, 3, 3, 100);
        dueCloses(x, 5, 1, 2, 100);
        CHECK.due("closes of one in the tree", x.closes(0, 1), -2);
        CHECK.due("closes(1, 3)", x.closes(1, 3), -1);
        CHECK.due("closes(1, -1)", x.closes(1, -1), -1);
        CHECK.due("closes(6, 0)", x.closes(6, 0), -1);
        CHECK.due("closes(-1, 0)", x.closes(-1, 0), -1);
        x = Check.told("dock a gives 9;dock b takes 9;route r a b costs 1 holds 4;");
        dueCloses(x, 0, 4, 0, 100);
        // Of like rooms the last one in order: tender of a, the route, tender of b, all have 9.
        x = Check.told("dock a gives 9;dock b takes 9;route r a b costs 1 holds 9;");
        dueCloses(x, 0, 9, 2, 100);
    }

    private static void strongTrees() {
        for (int n = 0; n < 4; n++) {
            CHECK.due("strong() behind " + n, stepped(n).strong(), 1);
        }
        PivotDocks x = ended();
        x.load(2, 1);
        CHECK.due("flow 0 away from the hub", x.strong(), 0);
        x.undo();
        x.hold(0, 3);
        CHECK.due("flow is what it holds, away from the hub", x.strong(), 1);
        x = ended();
        x.load(0, -3);
        CHECK.due("flow 0 towards the hub", x.strong(), 1);
        x = stepped(1);
        x.load(1, 2);
        CHECK.due("flow 2 of 3 towards the hub", x.strong(), 1);
        x.hold(1, 2);
        CHECK.due("flow is what it holds, towards the hub", x.strong(), 0);
        x = Check.told("dock a takes 2;");
        x.load(0, 2);
        CHECK.due("a tender from the hub with flow 0", x.strong(), 0);
    }

    private static void steps() {
        PivotDocks x = begun();
        CHECK.due("step() 1", x.step(), 1);
        CHECK.due("step() 2", x.step(), 0);
        CHECK.due("step() 3", x.step(), 2);
        CHECK.due("step() at the end", x.step(), -2);
        CHECK.due("no act", x.count(6), 3);
        CHECK.due("no pivot", x.count(5), 3);
        CHECK.due("step() of none", new PivotDocks().step(), -2);
        x.toll(1, 9);
        CHECK.due("a full one enters", x.step(), 1);
        dueWay(x, 1, 1, 2, 9, 3, 0, 0, 0);
        dueWay(x, 0, 0, 1, 2, 9, 0, 1, 3);
        dueWay(x, 2, 0, 2, 8, 5, 4, 0, 0);
        PivotDocks y = Check.told("dock a gives 9;dock b takes 9;route r a b costs 1 holds 4;route s a b costs 2 holds 9;block 1;");
        y.step();
        dueWay(y, 0, 0, 1, 1, 4, 4, 2, -19999);
        y.step();
        y.toll(0, 9);
        CHECK.due("a full one enters and is empty then", y.step(), 0);
        dueWay(y, 0, 0, 1, 9, 4, 0, 1, 7);
        dueWay(y, 1, 0, 1, 2, 9, 9, 0, 0);
    }

    private static void runs() {
        PivotDocks x = begun();
        CHECK.due("run(0)", x.run(0), -1);
        CHECK.due("run(100)", x.run(100), -1);
        CHECK.due("run(MIN)", x.run(MIN), -1);
        CHECK.due("no act of these", x.count(6), 0);
        CHECK.due("run(2)", x.run(2), 2);
        CHECK.due("one act", x.count(6), 1);
        CHECK.due("run(99)", x.run(99), 1);
        CHECK.due("run(1)", x.run(1), 0);
        CHECK.due("run at the end is no act", x.count(6), 2);
        CHECK.due("pivots", x.count(5), 3);
        x.undo();
        x.undo();
        CHECK.due("a whole run undone", x.count(5), 0);
    }

    private static void logs() {
        PivotDocks x = ended();
        int[][] want = {{2, 5, 1, 3, 1}, {0, 1, 3, 4, 1}, {1, 4, 0, 3, 1}};
        for (int ago = 0; ago < 3; ago++) {
            for (int what = 0; what < 5; what++) {
                CHECK.due("log(" + ago + ", " + what + ")", x.log(ago, what), want[ago][what]);
            }
        }
        CHECK.dueThrow("log(3, 0)", () -> x.log(3, 0));
        CHECK.dueThrow("log(-1, 0)", () -> x.log(-1, 0));
        CHECK.dueThrow("log(MAX, 0)", () -> x.log(MAX, 0));
        CHECK.dueThrow("log(0, 5)", () -> x.log(0, 5));
        CHECK.dueThrow("log(0, -1)", () -> x.log(0, -1));
        CHECK.dueThrow("log(0, 0) of none", () -> new PivotDocks().log(0, 0));
        PivotDocks y = Check.told("dock a gives 9;dock b takes 9;route r a b costs 1 holds 4;route s a b costs 2 holds 9;");
        y.run(9);
        int first = y.count(5);
        for (int k = 0; k < 20; k++) {
            y.toll(0, k % 2 == 0 ? 9 : 1);
            CHECK.due("turned over", y.step(), 0);
        }
        CHECK.due("pivots since begun", y.count(5), first + 20);
        CHECK.due("pivots in the log", y.count(4), 16);
        for (int ago = 0; ago < 16; ago++) {
            CHECK.due("log(" + ago + ", 0)", y.log(ago, 0), 0);
            CHECK.due("log(" + ago + ", 2)", y.log(ago, 2), 4);
        }
        CHECK.dueThrow("log(16, 0)", () -> y.log(16, 0));
        y.undo();
        CHECK.due("undone: the oldest one is back", y.log(15, 0), 0);
        y.anew();
        CHECK.dueThrow("the log is empty when all is begun", () -> y.log(0, 0));
    }

    private static void sums() {
        int[] costs = {0, 0, 15, 23};
        long[] totals = {110000, 110000, 50015, 30023};
        for (int n = 0; n < 4; n++) {
            CHECK.due("cost() behind " + n, stepped(n).cost(), costs[n]);
            CHECK.due("total() behind " + n, stepped(n).total(), totals[n]);
        }
        CHECK.due("proof() at the end", ended().proof(), 30023);
        // Gains -19997 times 3, -19992 times 5; less 7 * -10000 and -4 * 10000.
        CHECK.due("proof() at first", begun().proof(), -59991 - 99960 + 110000);
        PivotDocks x = Check.told("dock a gives 999;dock b gives 999;dock c gives 999;");
        CHECK.due("total() of three", x.total(), 29970000);
        CHECK.due("proof() of three", x.proof(), 29970000);
    }

    private static void bills() {
        PivotDocks x = ended();
        CHECK.due("bill(1, 0)", x.bill(1, 0), 23);
        CHECK.due("bill(-2, 5)", x.bill(-2, 5), -41);
        CHECK.due("bill(0, MAX)", x.bill(0, MAX), MAX);
        CHECK.due("bill(0, MIN)", x.bill(0, MIN), MIN);
        CHECK.due("bill(1, MAX - 23)", x.bill(1, MAX - 23), MAX);
        CHECK.due("bill(1, MAX - 22)", x.bill(1, MAX - 22), MIN);
        CHECK.due("bill(-1, MIN + 24)", x.bill(-1, MIN + 24), MIN + 1);
        CHECK.due("bill(-1, MIN + 22)", x.bill(-1, MIN + 22), MIN);
        CHECK.due("bill(MAX, MAX)", x.bill(MAX, MAX), MIN);
        CHECK.due("bill(MIN, MIN)", x.bill(MIN, MIN), MIN);
        CHECK.due("bill(186737709, 0), wraps to a small one", x.bill(186737709, 0), MIN);
    }

    private static void dueLacks(PivotDocks x, int... want) {
        for (int what = 0; what < 4; what++) {
            CHECK.due("lack(" + what + ")", x.lack(what), want[what]);
        }
    }

    private static void lacks() {
        dueLacks(begun(), 4, 2, 7, 0);
        dueLacks(stepped(2), 1, 2, 4, 0);
        dueLacks(ended(), 0, -2, 3, 0);
        dueLacks(Check.told("dock a takes 1;"), 1, 0, 0, -2);
        dueLacks(Check.told("dock a gives 1;"), 0, -2, 1, 0);
        dueLacks(new PivotDocks(), 0, -2, 0, -2);
        dueLacks(Check.told("dock a;dock b takes 2;dock c gives 4;dock d takes 3;dock e gives 1;"), 5, 1, 5, 2);
        CHECK.due("lack(4)", begun().lack(4), -1);
        CHECK.due("lack(-1)", begun().lack(-1), -1);
    }

    private static void units() {
        PivotDocks x = ended();
        int[][] want = {{0, 2, 8}, {-2, 0, 6}, {-8, -6, 0}};
        for (int from = 0; from < 3; from++) {
            for (int to = 0; to < 3; to++) {
                CHECK.due("unit(" + from + ", " + to + ")", x.unit(from, to), want[from][to]);
                CHECK.due("unit not at the end", begun().unit(from, to), MIN);
            }
        }
        CHECK.due("unit(3, 0)", x.unit(3, 0), MIN);
        CHECK.due("unit(0, 3)", x.unit(0, 3), MIN);
        CHECK.due("unit(-1, -1)", x.unit(-1, -1), MIN);
        x.hold(2, 1);
        CHECK.due("no way when all are full", x.unit(0, 2), MIN);
        CHECK.due("back is a way", x.unit(2, 0), -8);
    }

    private static void ranges() {
        PivotDocks x = ended();
        int[][] want = {{0, 5}, {0, 6}, {5, 999}};
        for (int route = 0; route < 3; route++) {
            CHECK.due("range(" + route + ", false)", x.range(route, false), want[route][0]);
            CHECK.due("range(" + route + ", true)", x.range(route, true), want[route][1]);
            CHECK.due("range not at the end", begun().range(route, true), -2);
        }
        CHECK.due("range of a tender", x.range(3, true), -1);
        CHECK.due("range(-1)", x.range(-1, false), -1);
        CHECK.due("range of none, not at the end", begun().range(3, false), -1);
        CHECK.due("range changes nothing", x.cost(), 23);
        PivotDocks y = Check.told("dock a;dock b;route r a b costs 7 holds 1;");
        CHECK.due("range of an empty one, least", y.range(0, false), 0);
        CHECK.due("range of an empty one, most", y.range(0, true), 999);
        PivotDocks z = Check.told("dock a gives 1;dock b takes 1;route x a b costs 9 holds 5;route y a b costs 2 holds 5;");
        z.run(9);
        CHECK.due("range of one in the tree, bound by way 0", z.range(1, true), 9);
        CHECK.due("range of one in the tree, bound by 0", z.range(1, false), 0);
        CHECK.due("range of way 0, empty, least", z.range(0, false), 2);
        CHECK.due("range of way 0, empty, most", z.range(0, true), 999);
        // r goes towards the hub: what b takes comes from c, which hangs from b by it.
        PivotDocks w = Check.told("dock b takes 3;dock c gives 1;route r c b costs 5 holds 9;route s c b costs 7 holds 9;");
        w.run(9);
        CHECK.due("it goes towards the hub", w.dock(1, 3), 0);
        CHECK.due("range of one towards the hub, most", w.range(0, true), 7);
        CHECK.due("range of one towards the hub, least", w.range(0, false), 0);
    }

    private static void trials() {
        for (int n = 0; n < 4; n += 3) {
            PivotDocks x = stepped(n);
            CHECK.due("ms costs 9", x.tried(0, 1, 9, false), 32);
            CHECK.due("ms costs 3, as it does", x.tried(0, 1, 3, false), 23);
            CHECK.due("ns holds 0", x.tried(1, 2, 0, false), 15);
            CHECK.due("ns holds 0, lack", x.tried(1, 2, 0, true), 1);
            CHECK.due("nm holds 999", x.tried(1, 0, 999, false), 23);
            CHECK.due("s takes 9", x.tried(2, 2, -9, false), 47);
            CHECK.due("s takes 9, lack", x.tried(2, 2, -9, true), 2);
            CHECK.due("n gives 2", x.tried(2, 0, 2, false), 10);
            CHECK.due("n takes 999, lack", x.tried(2, 0, -999, true), 1003);
            CHECK.due("nothing changes", x.count(5), n);
            CHECK.due("no act", x.count(6), n);
            CHECK.due("gifts stay", x.dock(0, 0), 7);
        }
        PivotDocks x = begun();
        int[][] others = {{-1, 0, 1}, {3, 0, 1}, {0, 3, 1}, {0, -1, 1}, {0, 0, -1}, {0, 0, 1000}, {1, 3, 1}, {1, 0, -1}, {1, 0, 1000},
            {2, 3, 0}, {2, -1, 0}, {2, 0, 1000}, {2, 0, -1000}, {0, 0, MIN}, {2, 0, MIN}, {2, 0, MAX}};
        for (int[] row : others) {
            CHECK.due("tried(" + row[0] + ", " + row[1] + ", " + row[2] + ")", x.tried(row[0], row[1], row[2], false), -1);
        }
    }

    private static void loads() {
        PivotDocks x = ended();
        CHECK.due("the hub's tender can't", x.load(2, -4), -5);
        CHECK.due("the route can't, it is first", x.load(2, -5), -4);
        CHECK.due("below 0 against the route", x.load(2, 2), -4);
        CHECK.due("below 0 along the tender", x.load(0, -8), -5);
        CHECK.due("refused is no act", x.count(6), 3);
        CHECK.due("by 0", x.load(0, 0), -1);
        CHECK.due("a gift of 1000", x.load(0, 993), -1);
        CHECK.due("a gift of -1000", x.load(2, -996), -1);
        CHECK.due("by MAX", x.load(0, MAX), -1);
        CHECK.due("by MIN", x.load(2, MIN), -1);
        CHECK.due("load(3, 1)", x.load(3, 1), -1);
        CHECK.due("load(-1, 1)", x.load(-1, 1), -1);
        CHECK.due("load(2, -3)", x.load(2, -3), 2);
        dueDock(x, 2, -7, -9992, 2, 2);
        CHECK.due("flow of ns", x.way(2, 4), 4);
        CHECK.due("flow of the tender", x.way(3, 4), 0);
        CHECK.due("cost", x.cost(), 47);
        CHECK.due("load(0, 992)", x.load(0, 992), 1);
        CHECK.due("stuck", x.dock(0, 6), 992);
        CHECK.due("the gift is 999", x.dock(0, 0), 999);
        PivotDocks y = Check.told("dock a takes 2;");
        CHECK.due("less is lacking", y.load(0, 1), 1);
        CHECK.due("lack", y.lack(0), 1);
        CHECK.due("tenders go on as they were begun", y.load(0, 2), -2);
        CHECK.due("to 0", y.load(0, 1), 1);
        CHECK.due("it comes from the hub still", y.way(0, 0), -1);
        y.anew();
        CHECK.due("begun anew it goes to the hub", y.way(0, 0), 0);
    }

    private static void spares() {
        PivotDocks x = ended();
        int[] more = {1000000, 3, 1};
        int[] less = {3, 3, 3};
        for (int d = 0; d < 3; d++) {
            CHECK.due("spare(" + d + ", false)", x.spare(d, false), more[d]);
            CHECK.due("spare(" + d + ", true)", x.spare(d, true), less[d]);
        }
        CHECK.due("spare of one from the hub, more", begun().spare(2, false), 4);
        CHECK.due("spare of one from the hub, less", begun().spare(2, true), 1000000);
        CHECK.due("spare(3)", x.spare(3, false), -1);
        CHECK.due("spare(-1)", x.spare(-1, true), -1);
        PivotDocks y = Check.told("dock a gives 999;");
        CHECK.due("whatever the gift is then", y.spare(0, true), 999);
        CHECK.due("whatever the gift is then, more", y.spare(0, false), 1000000);
    }

    private static void tolls() {
        PivotDocks x = ended();
        CHECK.due("toll(0, 2) it costs that", x.toll(0, 2), -1);
        CHECK.due("toll(0, -1)", x.toll(0, -1), -1);
        CHECK.due("toll(0, 1000)", x.toll(0, 1000), -1);
        CHECK.due("toll(3, 1)", x.toll(3, 1), -1);
        CHECK.due("toll(-1, 1)", x.toll(-1, 1), -1);
        CHECK.due("none of these is an act", x.count(6), 3);
        CHECK.due("toll(0, 999)", x.toll(0, 999), 2);
        CHECK.due("toll(2, 0)", x.toll(2, 0), 8);
        CHECK.due("prices go with it", x.dock(1, 1), -9001);
        CHECK.due("prices go with it", x.dock(2, 1), -10000);
        CHECK.due("flows stay", x.cost(), 3 * 999 + 9);
        CHECK.due("the tree stays", x.count(10), 2);
        CHECK.due("acts", x.count(6), 5);
    }

    private static void holds() {
        PivotDocks x = ended();
        CHECK.due("hold(1, 2) it is full", x.hold(1, 2), -2);
        CHECK.due("hold(1, 9) it is full", x.hold(1, 9), -2);
        CHECK.due("hold(1, 3) it holds that", x.hold(1, 3), -1);
        CHECK.due("hold(0, 2) flow is more", x.hold(0, 2), -2);
        CHECK.due("hold(0, 9) it holds that", x.hold(0, 9), -1);
        CHECK.due("hold(0, 0)", x.hold(0, 0), -1);
        CHECK.due("hold(0, 1000)", x.hold(0, 1000), -1);
        CHECK.due("hold(3, 5)", x.hold(3, 5), -1);
        CHECK.due("hold(-1, 5)", x.hold(-1, 5), -1);
        CHECK.due("none of these is an act", x.count(6), 3);
        CHECK.due("hold(0, 3)", x.hold(0, 3), 9);
        CHECK.due("it stays in the tree", x.way(0, 5), 0);
        CHECK.due("hold(2, 999)", x.hold(2, 999), 5);
        CHECK.due("it holds 999", x.way(2, 3), 999);
        CHECK.due("acts", x.count(6), 5);
    }

    private static void blockTold() {
        PivotDocks x = begun();
        CHECK.due("block(24)", x.block(24), -1);
        CHECK.due("block(0)", x.block(0), -1);
        CHECK.due("block(25)", x.block(25), -1);
        CHECK.due("none of these is an act", x.count(6), 0);
        CHECK.due("block(1)", x.block(1), 24);
        CHECK.due("it counts", x.step(), 1);
        CHECK.due("the pointer", x.count(3), 2);
        CHECK.due("undone", x.undo(), 1);
        CHECK.due("the pointer undone", x.count(3), 0);
        x.step();
        CHECK.due("block(24) again", x.block(24), 1);
        CHECK.due("acts", x.count(6), 3);
    }

    private static void begunAnew() {
        PivotDocks x = ended();
        x.toll(1, 9);
        x.hold(2, 4);
        x.load(0, -1);
        x.block(1);
        CHECK.due("anew()", x.anew(), 3);
        x.undo();
        x.toll(0, 999);
        x.step();
        CHECK.due("the pointer has moved", x.count(3) != 0, true);
        x.undo();
        x.undo();
        x.anew();
        CHECK.due("pivots", x.count(5), 0);
        CHECK.due("log", x.count(4), 0);
        CHECK.due("pointer", x.count(3), 0);
        CHECK.due("block stays", x.count(2), 1);
        CHECK.due("gift", x.dock(0, 6), 6);
        CHECK.due("cost told", x.way(1, 2), 9);
        CHECK.due("hold told", x.way(2, 3), 4);
        CHECK.due("routes are empty", x.way(1, 5), 1);
        CHECK.due("anew() again", x.anew(), 0);
        CHECK.due("acts", x.count(6), 9);
        x.undo();
        x.undo();
        CHECK.due("undone", x.count(5), 3);
        CHECK.due("undone: the log", x.log(0, 0), 2);
    }

    private static void sheets() {
        CHECK.due("sheet at first", begun().sheet(-1), 0);
        CHECK.due("sheet(0) at first", begun().sheet(0), -2);
        PivotDocks x = ended();
        String want = "nm 3;ms 3;ns 1;";
        CHECK.due("sheet(-1)", x.sheet(-1), want.length());
        for (int i = 0; i < want.length(); i++) {
            CHECK.due("sheet(" + i + ")", x.sheet(i), want.charAt(i));
        }
        CHECK.due("sheet(15)", x.sheet(15), -2);
        CHECK.due("sheet(MAX)", x.sheet(MAX), -2);
        CHECK.due("sheet(-2)", x.sheet(-2), -1);
        CHECK.due("sheet(MIN)", x.sheet(MIN), -1);
        StringBuilder longest = new StringBuilder("dock a gives 999;dock b takes 999;route abcdef a b costs 1 holds 405;route z a b costs 1 holds 10;");
        longest.append("route none a b costs 999 holds 9;route x a b costs 2 holds 584;");
        PivotDocks y = Check.told(longest.toString());
        y.run(99);
        CHECK.due("numbers with 0 in them, names of six letters, none without flow: " + Check.sheet(y),
            Check.sheet(y).equals("abcdef 405;z 10;x 584;"), true);
    }

    private static void undone() {
        PivotDocks x = begun();
        CHECK.due("undo() of nothing", x.undo(), -1);
        x.step();
        x.load(1, 2);
        x.toll(0, 7);
        x.hold(0, 8);
        x.block(3);
        x.run(5);
        x.anew();
        Check.feed(x, "dock");
        CHECK.due("undo anew", x.undo(), 6);
        CHECK.due("pivots are back", x.count(5) > 1, true);
        CHECK.due("undo run", x.undo(), 5);
        CHECK.due("one pivot", x.count(5), 1);
        CHECK.due("undo block", x.undo(), 4);
        CHECK.due("block", x.count(2), 24);
        CHECK.due("undo hold", x.undo(), 3);
        CHECK.due("hold", x.way(0, 3), 9);
        CHECK.due("undo toll", x.undo(), 2);
        CHECK.due("toll", x.way(0, 2), 2);
        CHECK.due("undo load", x.undo(), 1);
        CHECK.due("gift", x.dock(1, 0), 0);
        CHECK.due("undo step", x.undo(), 0);
        dueDock(x, 1, 0, -10000, 1, 4, 1, 0, 0);
        CHECK.due("undo() of no more", x.undo(), -1);
        CHECK.due("the tape stays", x.count(7), 20);
        for (int n = 1; n <= 15; n++) {
            x.block(n);
            CHECK.due("acts behind " + n, x.count(6), Math.min(n, 12));
        }
        for (int n = 11; n >= 0; n--) {
            CHECK.due("undo", x.undo(), n);
        }
        CHECK.due("no more than 12", x.undo(), -1);
        CHECK.due("block is that of the third", x.count(2), 3);
    }

    private static void kept() {
        PivotDocks x = begun();
        CHECK.due("keep(0, true) of nothing", x.keep(0, true), false);
        CHECK.due("keep(-1, false)", x.keep(-1, false), false);
        CHECK.due("keep(2, false)", x.keep(2, false), false);
        CHECK.due("keep(2, true)", x.keep(2, true), false);
        x.step();
        CHECK.due("keep(0, false)", x.keep(0, false), true);
        CHECK.due("it is no act", x.count(6), 1);
        CHECK.due("keep(1, true) of nothing", x.keep(1, true), false);
        CHECK.due("acts stay", x.count(6), 1);
        x.run(9);
        x.toll(0, 5);
        CHECK.due("keep(1, false)", x.keep(1, false), true);
        x.anew();
        Check.feed(x, "dock");
        CHECK.due("keep(0, true)", x.keep(0, true), true);
        CHECK.due("the tape stays", x.count(7), 20);
        CHECK.due("nothing can be undone", x.undo(), -1);
        dueDock(x, 1, 0, 9997, 2, 1, 1, 0, 0);
        CHECK.due("cost as it was", x.way(0, 2), 2);
        CHECK.due("log as it was", x.log(0, 0), 1);
        CHECK.due("a pivot from there", x.step(), 0);
        CHECK.due("keep(1, true)", x.keep(1, true), true);
        CHECK.due("pivots", x.count(5), 3);
        CHECK.due("cost", x.way(0, 2), 5);
        CHECK.due("keep(0, true) once more", x.keep(0, true), true);
        CHECK.due("pivots", x.count(5), 1);
        x.block(9);
        CHECK.due("laid anew", x.keep(0, false), true);
        x.undo();
        CHECK.due("undone", x.count(2), 24);
        x.keep(0, true);
        CHECK.due("gone back to", x.count(2), 9);
    }

    private static void counts() {
        PivotDocks x = ended();
        int[] want = {3, 3, 24, 0, 3, 3, 3, 0, 1, 1, 2};
        for (int what = 0; what < want.length; what++) {
            CHECK.due("count(" + what + ")", x.count(what), want[what]);
        }
        CHECK.due("count(8) not at the end", begun().count(8), 0);
        CHECK.due("count(11)", x.count(11), -1);
        CHECK.due("count(-1)", x.count(-1), -1);
        CHECK.due("count(MIN)", x.count(MIN), -1);
        CHECK.due("NONE", PivotDocks.NONE, -1);
    }
}

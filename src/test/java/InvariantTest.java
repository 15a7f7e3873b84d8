import java.util.Random;

/** What "==== 2." says of every state, looked at in random ones; the seeds are fixed, and no object is asked more than 512 times. */
public final class InvariantTest {
    private static final Check CHECK = new Check();
    private static final int RUNS = 3000;
    private static final int HUB = -1;

    private final Random random;
    private PivotDocks x;
    private int docks;
    private int routes;

    private InvariantTest(int seed) {
        random = new Random(seed);
    }

    public static void main(String[] args) {
        for (int seed = 0; seed < RUNS; seed++) {
            new InvariantTest(seed).run();
        }
        CHECK.end("InvariantTest");
    }

    private void run() {
        x = Check.told(drawText());
        docks = x.count(0);
        routes = x.count(1);
        for (int k = 0; k < 4; k++) {
            x.step();
            CHECK.due("pivots keep a tree strong", x.strong(), 1);
        }
        for (int k = random.nextInt(12); k > 0; k--) {
            act();
        }
        eachWay();
        eachDock();
        x.run(99);
        if (x.count(8) == 1) {
            CHECK.due("at the end the proof is the total", x.proof(), x.total());
        }
        eachDock();
    }

    private String drawText() {
        int most = new int[] {3, 20, 999}[random.nextInt(3)];
        int n = 2 + random.nextInt(7);
        StringBuilder text = new StringBuilder();
        for (int d = 0; d < n; d++) {
            text.append("dock ").append((char) ('a' + d)).append(random.nextBoolean() ? " gives" : " takes").append(random.nextInt(most + 1)).append(';');
        }
        for (int r = random.nextInt(17); r > 0 && text.length() < 560; r--) {
            int from = random.nextInt(n);
            int to = (from + 1 + random.nextInt(n - 1)) % n;
            text.append("route r").append((char) ('a' + r)).append(' ').append((char) ('a' + from)).append(' ').append((char) ('a' + to))
                .append(" costs").append(random.nextInt(most + 1)).append("holds").append(1 + random.nextInt(most)).append(';');
        }
        return text + "block " + (1 + random.nextInt(24)) + ";";
    }

    private void act() {
        int number = random.nextInt(2) == 0 ? random.nextInt(1000) : random.nextInt(9);
        switch (random.nextInt(6)) {
            case 0: x.step(); break;
            case 1: x.run(1 + random.nextInt(5)); break;
            case 2: x.load(random.nextInt(docks), number); break;
            case 3: x.load(random.nextInt(docks), -number); break;
            case 4: x.toll(random.nextInt(Math.max(1, routes)), number); break;
            default: x.hold(random.nextInt(Math.max(1, routes)), number); break;
        }
    }

    private void eachWay() {
        CHECK.sentence("Each WAY has a FLOW, from 0 to what it holds. THE TREE: as many WAYS as DOCKS");
        int inTree = 0;
        for (int way = 0; way < routes + docks; way++) {
            int holds = way < routes ? x.way(way, 3) : 1000000;
            int flow = x.way(way, 4);
            int state = x.way(way, 5);
            inTree += state == 0 ? 1 : 0;
            CHECK.due("a flow from 0 to what it holds", flow >= 0 && flow <= holds, true);
            if (state != 0) {
                CHECK.due("empty: 0, full: what it holds", flow, state == 1 ? 0 : holds);
            } else {
                CHECK.due("prices are such that a way in the tree gains 0", x.way(way, 6), 0);
            }
        }
        CHECK.due("as many ways in the tree as docks", inTree, docks);
    }

    /** What flows to a dock and what it gives flows from it; its way up leads one nearer to the hub. */
    private void eachDock() {
        CHECK.sentence("by which all DOCKS hang from the HUB");
        int[] left = new int[docks];
        int[][] ends = new int[routes + docks][2];
        for (int way = 0; way < routes + docks; way++) {
            int flow = x.way(way, 4);
            for (int end = 0; end < 2; end++) {
                ends[way][end] = x.way(way, end);
                if (ends[way][end] != HUB) {
                    left[ends[way][end]] += end == 0 ? -flow : flow;
                }
            }
        }
        for (int dock = 0; dock < docks; dock++) {
            CHECK.due("nothing is left", left[dock] + x.dock(dock, 0), 0);
            int[] up = ends[x.dock(dock, 3)];
            CHECK.due("the way up is at the dock", up[0] == dock || up[1] == dock, true);
            int next = up[0] == dock ? up[1] : up[0];
            CHECK.due("one nearer to the hub", x.dock(dock, 2), 1 + (next == HUB ? 0 : x.dock(next, 2)));
        }
    }
}

import java.util.NoSuchElementException;

/** Cheapest shipping kept by a spanning tree of routes; the document's face, the work is done by the classes inside. */
public final class PivotDocks {
    public static final int NONE = -1;

    private static final int NOT_SO = -2;
    private static final int HUB_ASKED = 100;
    private static final int TAPE_BYTES = 600;
    private static final int FED_BYTES = 20;
    private static final int MOST_DOCKS = 8;
    private static final int MOST_ROUTES = 16;
    private static final int MOST_WAYS = 24;
    // The HUB stands behind the last DOCK there can be, so that rows by place need no case of their own for it.
    private static final int HUB = 8;
    private static final int PLACES = 9;
    private static final int MOST_IN_RING = 17;
    // What a TENDER holds: more than can ever flow, and the very answer of spare() for it.
    private static final int ENDLESS = 1000000;
    private static final int TENDER_COST = 10000;
    private static final int MOST_NUMBER = 999;
    private static final int MOST_BLOCK = 24;
    private static final int BLOCK_UNTOLD = 4;
    private static final int MOST_RUN = 99;
    private static final int IN_TREE = 0;
    private static final int EMPTY = 1;
    private static final int FULL = 2;
    private static final int LOGGED = 16;
    private static final int LOG_PARTS = 5;
    private static final int MOST_UNDONE = 12;
    private static final int KEEPS = 2;
    // All begun hangs strongly, so trials end by themselves; the bound is far above what they need.
    private static final int MOST_TRIAL_PIVOTS = 1000000;
    private static final int SHEET_BYTES = 192;

    private final byte[] tape = new byte[TAPE_BYTES];
    private int taped = 0;
    private final Reader reader = new Reader();
    private final long[] routeNames = new long[MOST_ROUTES];
    private final Yard yard = new Yard();
    private final Yard trial = new Yard();
    private final Past past = new Past();
    private final Plan[] keeps = new Plan[KEEPS];
    private final boolean[] laid = new boolean[KEEPS];
    private final UnitPaths paths = new UnitPaths();
    private final Sheet page = new Sheet();

    public PivotDocks() {
        for (int k = 0; k < KEEPS; k++) {
            keeps[k] = new Plan();
        }
        yard.beginAll();
    }

    public int feed(int a, int b, int c, int d, int e) {
        if (taped + FED_BYTES > TAPE_BYTES) {
            return NONE;
        }
        putBytes(a);
        putBytes(b);
        putBytes(c);
        putBytes(d);
        putBytes(e);
        return taped;
    }

    private void putBytes(int four) {
        for (int shift = 24; shift >= 0 && taped < TAPE_BYTES; shift -= 8) {
            tape[taped] = (byte) (four >> shift);
            taped++;
        }
    }

    public int text(int n) {
        if (n < 0 || n > taped) {
            return NONE;
        }
        int fault = reader.readText(tape, n);
        taped = 0;
        if (fault != NONE) {
            return -2 - fault;
        }
        yard.plan.copyFrom(reader.plan);
        System.arraycopy(reader.routeNames, 0, routeNames, 0, MOST_ROUTES);
        yard.beginAll();
        past.forget();
        for (int k = 0; k < KEEPS; k++) {
            laid[k] = false;
        }
        return yard.plan.docks;
    }

    public int dock(int dock, int what) throws NoSuchElementException {
        if (!yard.plan.hasDock(dock)) {
            throw new NoSuchElementException("no such dock");
        }
        switch (what) {
            case 0: return yard.plan.gifts[dock];
            case 1: return yard.tree.prices[dock];
            case 2: return yard.tree.depths[dock];
            case 3: return yard.tree.waysUp[dock];
            case 4: return yard.countHanging(dock);
            case 5: return yard.plan.lackOf(dock);
            case 6: return yard.plan.stuckOf(dock);
            default: throw new NoSuchElementException("no such number of a dock");
        }
    }

    public int way(int way, int what) throws NoSuchElementException {
        Plan plan = yard.plan;
        if (!plan.hasWay(way)) {
            throw new NoSuchElementException("no such way");
        }
        switch (what) {
            case 0: return plan.begins[way] == HUB ? NONE : plan.begins[way];
            case 1: return plan.ends[way] == HUB ? NONE : plan.ends[way];
            case 2: return plan.costs[way];
            case 3: return plan.hasRoute(way) ? plan.holds[way] : NONE;
            case 4: return plan.flows[way];
            case 5: return plan.states[way];
            case 6: return yard.gainOf(way);
            default: throw new NoSuchElementException("no such number of a way");
        }
    }

    public int ranked(int k) {
        for (int dock = 0; dock < yard.plan.docks; dock++) {
            if (yard.countAheadOf(dock) == k) {
                return dock;
            }
        }
        return NONE;
    }

    // ---- what would enter, what would leave

    public int good() {
        return yard.countGood();
    }

    public int enters() {
        int way = yard.findEntering();
        return way == NONE ? NOT_SO : way;
    }

    public int ring(int way, int k) {
        if (!yard.plan.hasWay(way) || k < NONE) {
            return NONE;
        }
        if (yard.plan.states[way] == IN_TREE) {
            return NOT_SO;
        }
        Ring ring = yard.traceRing(way);
        if (k == NONE) {
            return ring.size;
        }
        return k < ring.size ? ring.ways[k] : NOT_SO;
    }

    public int closes(int way, int what) {
        if (!yard.plan.hasWay(way) || what < 0 || what > 2) {
            return NONE;
        }
        if (yard.plan.states[way] == IN_TREE) {
            return NOT_SO;
        }
        Ring ring = yard.traceRing(way);
        if (what == 0) {
            return ring.least;
        }
        if (what == 1) {
            return ring.leavingWay();
        }
        return ring.apex == HUB ? HUB_ASKED : ring.apex;
    }

    public int strong() {
        return yard.isStrong() ? 1 : 0;
    }

    // ---- pivots

    public int step() {
        if (yard.isEnd()) {
            return NOT_SO;
        }
        past.remember(yard.plan);
        return yard.makePivot();
    }

    public int run(int n) {
        if (n < 1 || n > MOST_RUN) {
            return NONE;
        }
        if (yard.isEnd()) {
            return 0;
        }
        past.remember(yard.plan);
        return yard.makePivots(n);
    }

    public int log(int ago, int what) throws NoSuchElementException {
        if (ago < 0 || ago >= yard.plan.countLogged()) {
            throw new NoSuchElementException("no such pivot");
        }
        if (what < 0 || what >= LOG_PARTS) {
            throw new NoSuchElementException("no such number of a pivot");
        }
        return yard.plan.readLog(ago, what);
    }

    // ---- what it comes to

    public int cost() {
        return yard.plan.sumCost();
    }

    public int bill(int f, int g) {
        long whole = (long) yard.plan.sumCost() * f + g;
        if (whole < Integer.MIN_VALUE || whole > Integer.MAX_VALUE) {
            return Integer.MIN_VALUE;
        }
        return (int) whole;
    }

    public long total() {
        Plan plan = yard.plan;
        return plan.sumCost() + (long) TENDER_COST * (plan.sumLack() + plan.sumStuck());
    }

    public long proof() {
        return yard.sumProof();
    }

    public int lack(int what) {
        switch (what) {
            case 0: return yard.plan.sumLack();
            case 1: return yard.plan.firstLacking();
            case 2: return yard.plan.sumStuck();
            case 3: return yard.plan.firstStuck();
            default: return NONE;
        }
    }

    // ---- at the end

    public int unit(int from, int to) {
        if (!yard.plan.hasDock(from) || !yard.plan.hasDock(to) || !yard.isEnd()) {
            return Integer.MIN_VALUE;
        }
        return from == to ? 0 : paths.findLeast(yard.plan, from, to);
    }

    public int range(int route, boolean most) {
        if (!yard.plan.hasRoute(route)) {
            return NONE;
        }
        if (!yard.isEnd()) {
            return NOT_SO;
        }
        return most ? yard.greatestCost(route) : yard.leastCost(route);
    }

    public int tried(int what, int which, int n, boolean lack) {
        if (!canBeTried(what, which, n)) {
            return NONE;
        }
        Plan plan = trial.plan;
        plan.copyFrom(yard.plan);
        if (what == 0) {
            plan.costs[which] = n;
        } else if (what == 1) {
            plan.holds[which] = n;
        } else {
            plan.gifts[which] = n;
        }
        trial.beginAll();
        trial.makePivots(MOST_TRIAL_PIVOTS);
        return lack ? plan.sumLack() : plan.sumCost();
    }

    private boolean canBeTried(int what, int which, int n) {
        if (what == 0 || what == 1) {
            return yard.plan.hasRoute(which) && n >= 0 && n <= MOST_NUMBER;
        }
        return what == 2 && yard.plan.hasDock(which) && isGift(n);
    }

    private static boolean isGift(long n) {
        return n >= -MOST_NUMBER && n <= MOST_NUMBER;
    }

    // ---- told anew

    public int load(int dock, int by) {
        if (!yard.plan.hasDock(dock) || by == 0 || !isGift((long) yard.plan.gifts[dock] + by)) {
            return NONE;
        }
        int refusing = yard.findRefusing(dock, by);
        if (refusing != NONE) {
            return -2 - refusing;
        }
        past.remember(yard.plan);
        yard.shiftGift(dock, by);
        return yard.tree.depths[dock];
    }

    public int spare(int dock, boolean less) {
        if (!yard.plan.hasDock(dock)) {
            return NONE;
        }
        return yard.leastRoomUp(dock, !less);
    }

    public int toll(int route, int n) {
        Plan plan = yard.plan;
        if (!plan.hasRoute(route) || n < 0 || n > MOST_NUMBER || n == plan.costs[route]) {
            return NONE;
        }
        past.remember(plan);
        int was = plan.costs[route];
        plan.costs[route] = n;
        yard.regrow();
        return was;
    }

    public int hold(int route, int n) {
        Plan plan = yard.plan;
        if (!plan.hasRoute(route) || n < 1 || n > MOST_NUMBER || n == plan.holds[route]) {
            return NONE;
        }
        if (plan.states[route] == FULL || plan.flows[route] > n) {
            return NOT_SO;
        }
        past.remember(plan);
        int was = plan.holds[route];
        plan.holds[route] = n;
        return was;
    }

    public int block(int n) {
        Plan plan = yard.plan;
        if (n < 1 || n > MOST_BLOCK || n == plan.block) {
            return NONE;
        }
        past.remember(plan);
        int was = plan.block;
        plan.block = n;
        return was;
    }

    public int anew() {
        past.remember(yard.plan);
        int were = yard.plan.pivots;
        yard.beginAll();
        return were;
    }

    // ---- a sheet, back

    public int sheet(int i) {
        if (i < NONE) {
            return NONE;
        }
        page.write(yard.plan, routeNames);
        if (i == NONE) {
            return page.length;
        }
        return i < page.length ? page.bytes[i] : NOT_SO;
    }

    public int undo() {
        if (past.held == 0) {
            return NONE;
        }
        past.giveBack(yard.plan);
        yard.regrow();
        return past.held;
    }

    public boolean keep(int k, boolean back) {
        if (k < 0 || k >= KEEPS || (back && !laid[k])) {
            return false;
        }
        if (back) {
            yard.plan.copyFrom(keeps[k]);
            yard.regrow();
            past.forget();
        } else {
            keeps[k].copyFrom(yard.plan);
            laid[k] = true;
        }
        return true;
    }

    public int count(int what) {
        Plan plan = yard.plan;
        switch (what) {
            case 0: return plan.docks;
            case 1: return plan.routes;
            case 2: return plan.block;
            case 3: return plan.pointer;
            case 4: return plan.countLogged();
            case 5: return plan.pivots;
            case 6: return past.held;
            case 7: return taped;
            case 8: return yard.isEnd() ? 1 : 0;
            case 9: return plan.countFull();
            case 10: return plan.countRoutesInTree();
            default: return NONE;
        }
    }

    /** All that an ACT can change: numbers told, flows, which WAYS are in THE TREE, the POINTER, THE LOG. */
    private static final class Plan {
        int docks = 0;
        int routes = 0;
        int block = BLOCK_UNTOLD;
        int pointer = 0;
        int pivots = 0;
        final int[] gifts = new int[MOST_DOCKS];
        final int[] begins = new int[MOST_WAYS];
        final int[] ends = new int[MOST_WAYS];
        final int[] costs = new int[MOST_WAYS];
        final int[] holds = new int[MOST_WAYS];
        final int[] flows = new int[MOST_WAYS];
        final int[] states = new int[MOST_WAYS];
        final int[] log = new int[LOGGED * LOG_PARTS];

        void tellNothing() {
            docks = 0;
            routes = 0;
            block = BLOCK_UNTOLD;
        }

        void copyFrom(Plan other) {
            docks = other.docks;
            routes = other.routes;
            block = other.block;
            pointer = other.pointer;
            pivots = other.pivots;
            System.arraycopy(other.gifts, 0, gifts, 0, MOST_DOCKS);
            System.arraycopy(other.begins, 0, begins, 0, MOST_WAYS);
            System.arraycopy(other.ends, 0, ends, 0, MOST_WAYS);
            System.arraycopy(other.costs, 0, costs, 0, MOST_WAYS);
            System.arraycopy(other.holds, 0, holds, 0, MOST_WAYS);
            System.arraycopy(other.flows, 0, flows, 0, MOST_WAYS);
            System.arraycopy(other.states, 0, states, 0, MOST_WAYS);
            System.arraycopy(other.log, 0, log, 0, LOGGED * LOG_PARTS);
        }

        boolean hasDock(int dock) {
            return dock >= 0 && dock < docks;
        }

        boolean hasRoute(int way) {
            return way >= 0 && way < routes;
        }

        boolean hasWay(int way) {
            return way >= 0 && way < countWays();
        }

        int countWays() {
            return routes + docks;
        }

        void begin() {
            for (int route = 0; route < routes; route++) {
                flows[route] = 0;
                states[route] = EMPTY;
            }
            for (int dock = 0; dock < docks; dock++) {
                beginTender(dock);
            }
            pointer = 0;
            pivots = 0;
        }

        private void beginTender(int dock) {
            int way = routes + dock;
            boolean toHub = gifts[dock] >= 0;
            begins[way] = toHub ? dock : HUB;
            ends[way] = toHub ? HUB : dock;
            costs[way] = TENDER_COST;
            holds[way] = ENDLESS;
            flows[way] = toHub ? gifts[dock] : -gifts[dock];
            states[way] = IN_TREE;
        }

        int roomOf(int way, boolean along) {
            if (!along) {
                return flows[way];
            }
            return holds[way] == ENDLESS ? ENDLESS : holds[way] - flows[way];
        }

        int lackOf(int dock) {
            int way = routes + dock;
            return begins[way] == HUB ? flows[way] : 0;
        }

        int stuckOf(int dock) {
            int way = routes + dock;
            return ends[way] == HUB ? flows[way] : 0;
        }

        int sumLack() {
            int sum = 0;
            for (int dock = 0; dock < docks; dock++) {
                sum += lackOf(dock);
            }
            return sum;
        }

        int sumStuck() {
            int sum = 0;
            for (int dock = 0; dock < docks; dock++) {
                sum += stuckOf(dock);
            }
            return sum;
        }

        int firstLacking() {
            for (int dock = 0; dock < docks; dock++) {
                if (lackOf(dock) > 0) {
                    return dock;
                }
            }
            return NOT_SO;
        }

        int firstStuck() {
            for (int dock = 0; dock < docks; dock++) {
                if (stuckOf(dock) > 0) {
                    return dock;
                }
            }
            return NOT_SO;
        }

        int sumCost() {
            int sum = 0;
            for (int route = 0; route < routes; route++) {
                sum += flows[route] * costs[route];
            }
            return sum;
        }

        int countFull() {
            int full = 0;
            for (int way = 0; way < countWays(); way++) {
                full += states[way] == FULL ? 1 : 0;
            }
            return full;
        }

        int countRoutesInTree() {
            int inTree = 0;
            for (int route = 0; route < routes; route++) {
                inTree += states[route] == IN_TREE ? 1 : 0;
            }
            return inTree;
        }

        int countLogged() {
            return Math.min(pivots, LOGGED);
        }

        int readLog(int ago, int part) {
            return log[Math.floorMod(pivots - 1 - ago, LOGGED) * LOG_PARTS + part];
        }

        void writeLog(int entered, Ring ring, int moved) {
            int at = Math.floorMod(pivots, LOGGED) * LOG_PARTS;
            log[at] = entered;
            log[at + 1] = ring.leavingWay();
            log[at + 2] = ring.least;
            log[at + 3] = ring.size;
            log[at + 4] = moved;
            pivots++;
        }
    }

    /** Where each DOCK hangs in THE TREE of a Plan, and at what PRICE. */
    private static final class Tree {
        final int[] waysUp = new int[PLACES];
        final int[] parents = new int[PLACES];
        final int[] depths = new int[PLACES];
        final int[] prices = new int[PLACES];
        private final int[] formerPrices = new int[PLACES];

        void grow(Plan plan) {
            for (int place = 0; place < PLACES; place++) {
                formerPrices[place] = prices[place];
                parents[place] = HUB;
                depths[place] = place == HUB ? 0 : NONE;
                prices[place] = 0;
            }
            // Each round hangs one DOCK at least, as THE TREE reaches them all.
            int hung = 0;
            for (int round = 0; round < plan.docks && hung < plan.docks; round++) {
                for (int way = 0; way < plan.countWays(); way++) {
                    hung += plan.states[way] == IN_TREE && hangsBy(plan, way) ? 1 : 0;
                }
            }
        }

        /** Whether a WAY hangs one more DOCK: one of its places hangs, the other one didn't yet. */
        private boolean hangsBy(Plan plan, int way) {
            int begin = plan.begins[way];
            int end = plan.ends[way];
            if (depths[begin] != NONE && depths[end] == NONE) {
                hang(end, begin, way, prices[begin] + plan.costs[way]);
                return true;
            }
            if (depths[begin] == NONE && depths[end] != NONE) {
                hang(begin, end, way, prices[end] - plan.costs[way]);
                return true;
            }
            return false;
        }

        private void hang(int dock, int parent, int way, int price) {
            waysUp[dock] = way;
            parents[dock] = parent;
            depths[dock] = depths[parent] + 1;
            prices[dock] = price;
        }

        int countMoved(int docks) {
            int moved = 0;
            for (int dock = 0; dock < docks; dock++) {
                moved += prices[dock] == formerPrices[dock] ? 0 : 1;
            }
            return moved;
        }

        boolean hangsFrom(int place, int top) {
            int at = place;
            for (int k = 0; k < PLACES && at != top && at != HUB; k++) {
                at = parents[at];
            }
            return at == top;
        }

        int findApex(int a, int b) {
            int left = a;
            int right = b;
            for (int k = 0; k < 2 * PLACES && left != right; k++) {
                if (depths[left] > depths[right]) {
                    left = parents[left];
                } else {
                    right = parents[right];
                }
            }
            return left;
        }
    }

    /** The RING that a WAY outside THE TREE closes, in its order from the APEX on. */
    private static final class Ring {
        int size = 0;
        int apex = HUB;
        int least = 0;
        final int[] ways = new int[MOST_IN_RING];
        final boolean[] alongs = new boolean[MOST_IN_RING];
        private int leavingAt = 0;

        void trace(Plan plan, Tree tree, int way) {
            boolean empty = plan.states[way] != FULL;
            int a = empty ? plan.begins[way] : plan.ends[way];
            int b = empty ? plan.ends[way] : plan.begins[way];
            apex = tree.findApex(a, b);
            int down = Math.max(0, tree.depths[a] - tree.depths[apex]);
            size = 0;
            int at = a;
            for (int k = down - 1; k >= 0 && at != HUB; k--) {
                int wayUp = tree.waysUp[at];
                put(k, wayUp, plan.ends[wayUp] == at);
                at = tree.parents[at];
            }
            put(down, way, empty);
            at = b;
            for (int k = down + 1; k < MOST_IN_RING && at != apex && at != HUB; k++) {
                int wayUp = tree.waysUp[at];
                put(k, wayUp, plan.begins[wayUp] == at);
                at = tree.parents[at];
            }
            findLeaving(plan, way);
        }

        private void put(int at, int way, boolean along) {
            ways[at] = way;
            alongs[at] = along;
            size++;
        }

        private void findLeaving(Plan plan, int closing) {
            least = ENDLESS;
            leavingAt = 0;
            for (int k = 0; k < size; k++) {
                int way = ways[k];
                int room = way == closing ? plan.holds[way] : plan.roomOf(way, alongs[k]);
                if (room <= least) {
                    least = room;
                    leavingAt = k;
                }
            }
        }

        int leavingWay() {
            return ways[leavingAt];
        }

        boolean leavesAlong() {
            return alongs[leavingAt];
        }
    }

    /** A Plan with its Tree: what is GOOD, what ENTERS, PIVOTS, and what telling anew would do. */
    private static final class Yard {
        final Plan plan = new Plan();
        final Tree tree = new Tree();
        private final Ring closed = new Ring();
        private int behindLooked = 0;

        void beginAll() {
            plan.begin();
            regrow();
        }

        void regrow() {
            tree.grow(plan);
        }

        int gainOf(int way) {
            return plan.costs[way] + tree.prices[plan.begins[way]] - tree.prices[plan.ends[way]];
        }

        /** How far a WAY is GOOD: its GAIN without sign; 0 if it isn't. */
        private int goodness(int way) {
            int gain = gainOf(way);
            if (plan.states[way] == EMPTY && gain < 0) {
                return -gain;
            }
            return plan.states[way] == FULL && gain > 0 ? gain : 0;
        }

        int countGood() {
            int found = 0;
            for (int way = 0; way < plan.countWays(); way++) {
                found += goodness(way) > 0 ? 1 : 0;
            }
            return found;
        }

        boolean isEnd() {
            return countGood() == 0;
        }

        int findEntering() {
            int ways = plan.countWays();
            int at = plan.pointer;
            int best = NONE;
            int most = 0;
            int inBlock = 0;
            for (int looked = 0; looked < ways && (best == NONE || inBlock < plan.block); looked++) {
                inBlock = inBlock < plan.block ? inBlock + 1 : 1;
                int goodness = goodness(at);
                if (goodness > most) {
                    best = at;
                    most = goodness;
                }
                at = at + 1 < ways ? at + 1 : 0;
            }
            behindLooked = at;
            return best;
        }

        Ring traceRing(int way) {
            closed.trace(plan, tree, way);
            return closed;
        }

        /** What ENTERED; NONE at THE END. */
        int makePivot() {
            int entering = findEntering();
            if (entering == NONE) {
                return NONE;
            }
            plan.pointer = behindLooked;
            closed.trace(plan, tree, entering);
            moveFlows();
            exchange(entering);
            regrow();
            plan.writeLog(entering, closed, tree.countMoved(plan.docks));
            return entering;
        }

        private void moveFlows() {
            for (int k = 0; k < closed.size; k++) {
                plan.flows[closed.ways[k]] += closed.alongs[k] ? closed.least : -closed.least;
            }
        }

        private void exchange(int entering) {
            int leaving = closed.leavingWay();
            // If the WAY itself leaves, it was gone along just if it was EMPTY: the same rule tells its new state.
            plan.states[entering] = IN_TREE;
            plan.states[leaving] = closed.leavesAlong() ? FULL : EMPTY;
        }

        int makePivots(int most) {
            int made = 0;
            while (made < most && makePivot() != NONE) {
                made++;
            }
            return made;
        }

        int countHanging(int top) {
            int hanging = 0;
            for (int dock = 0; dock < plan.docks; dock++) {
                hanging += tree.hangsFrom(dock, top) ? 1 : 0;
            }
            return hanging;
        }

        int countAheadOf(int dock) {
            int ahead = 0;
            for (int other = 0; other < plan.docks; other++) {
                int more = tree.prices[other] - tree.prices[dock];
                ahead += more < 0 || (more == 0 && other < dock) ? 1 : 0;
            }
            return ahead;
        }

        boolean isStrong() {
            for (int dock = 0; dock < plan.docks; dock++) {
                int way = tree.waysUp[dock];
                boolean towardsHub = plan.begins[way] == dock;
                if (plan.roomOf(way, towardsHub) == 0) {
                    return false;
                }
            }
            return true;
        }

        long sumProof() {
            long sum = 0;
            for (int route = 0; route < plan.routes; route++) {
                sum += (long) Math.min(gainOf(route), 0) * plan.holds[route];
            }
            for (int dock = 0; dock < plan.docks; dock++) {
                sum -= (long) plan.gifts[dock] * tree.prices[dock];
            }
            return sum;
        }

        /** How GAIN of a WAY moves if a ROUTE costs one more: 1, 0 or -1. */
        private int gainMove(int way, int route) {
            if (plan.states[route] != IN_TREE) {
                return way == route ? 1 : 0;
            }
            boolean down = tree.waysUp[plan.ends[route]] == route;
            int top = down ? plan.ends[route] : plan.begins[route];
            int moved = tree.hangsFrom(plan.begins[way], top) ? 1 : 0;
            moved -= tree.hangsFrom(plan.ends[way], top) ? 1 : 0;
            return down ? moved : -moved;
        }

        /** Whether a WAY, as the cost of a ROUTE goes up (else down), comes nearer to being GOOD. */
        private boolean limits(int way, int route, boolean up) {
            if (plan.states[way] == IN_TREE) {
                return false;
            }
            int move = up ? gainMove(way, route) : -gainMove(way, route);
            return plan.states[way] == FULL ? move > 0 : move < 0;
        }

        private int shiftAllowed(int route, boolean up, int most) {
            int shift = most;
            for (int way = 0; way < plan.countWays(); way++) {
                if (limits(way, route, up)) {
                    shift = Math.min(shift, Math.abs(gainOf(way)));
                }
            }
            return shift;
        }

        int greatestCost(int route) {
            return plan.costs[route] + shiftAllowed(route, true, MOST_NUMBER - plan.costs[route]);
        }

        int leastCost(int route) {
            return plan.costs[route] - shiftAllowed(route, false, plan.costs[route]);
        }

        /** ROOM of the WAY UP of a DOCK for a GIFT that is more (else less). */
        private int roomUp(int dock, boolean more) {
            int way = tree.waysUp[dock];
            return plan.roomOf(way, (plan.begins[way] == dock) == more);
        }

        int leastRoomUp(int dock, boolean more) {
            int least = ENDLESS;
            int at = dock;
            for (int k = 0; k < PLACES && at != HUB; k++) {
                least = Math.min(least, roomUp(at, more));
                at = tree.parents[at];
            }
            return least;
        }

        int findRefusing(int dock, int by) {
            int at = dock;
            for (int k = 0; k < PLACES && at != HUB; k++) {
                if (roomUp(at, by > 0) < Math.abs(by)) {
                    return tree.waysUp[at];
                }
                at = tree.parents[at];
            }
            return NONE;
        }

        void shiftGift(int dock, int by) {
            plan.gifts[dock] += by;
            int at = dock;
            for (int k = 0; k < PLACES && at != HUB; k++) {
                int way = tree.waysUp[at];
                plan.flows[way] += plan.begins[way] == at ? by : -by;
                at = tree.parents[at];
            }
        }
    }

    /** The least cost of one unit more between two DOCKS, by ROUTES with room. */
    private static final class UnitPaths {
        private static final int UNREACHED = Integer.MAX_VALUE;
        private final int[] least = new int[MOST_DOCKS];

        int findLeast(Plan plan, int from, int to) {
            for (int dock = 0; dock < MOST_DOCKS; dock++) {
                least[dock] = dock == from ? 0 : UNREACHED;
            }
            // At THE END no ring of ROUTES costs less than nothing, so as many rounds as DOCKS are enough.
            for (int round = 0; round < plan.docks; round++) {
                for (int route = 0; route < plan.routes; route++) {
                    tryRoute(plan, route);
                }
            }
            return least[to] == UNREACHED ? Integer.MIN_VALUE : least[to];
        }

        private void tryRoute(Plan plan, int route) {
            int begin = plan.begins[route];
            int end = plan.ends[route];
            if (plan.roomOf(route, true) > 0) {
                reach(begin, end, plan.costs[route]);
            }
            if (plan.roomOf(route, false) > 0) {
                reach(end, begin, -plan.costs[route]);
            }
        }

        private void reach(int from, int to, int costing) {
            if (least[from] != UNREACHED && least[from] + costing < least[to]) {
                least[to] = least[from] + costing;
            }
        }
    }

    /** The ROUTES that ship something, as bytes. */
    private static final class Sheet {
        final byte[] bytes = new byte[SHEET_BYTES];
        int length = 0;

        void write(Plan plan, long[] names) {
            length = 0;
            for (int route = 0; route < plan.routes && route < names.length; route++) {
                if (plan.flows[route] > 0) {
                    writeName(names[route]);
                    put(' ');
                    writeNumber(plan.flows[route]);
                    put(';');
                }
            }
        }

        private void writeName(long name) {
            for (int shift = 40; shift >= 0; shift -= 8) {
                int letter = (int) (name >> shift) & 255;
                if (letter != 0) {
                    put(letter);
                }
            }
        }

        private void writeNumber(int number) {
            boolean begun = false;
            for (int unit = 1000; unit >= 1; unit /= 10) {
                int digit = number / unit % 10;
                begun = begun || digit > 0;
                if (begun) {
                    put('0' + digit);
                }
            }
        }

        private void put(int letter) {
            if (length < SHEET_BYTES) {
                bytes[length] = (byte) letter;
                length++;
            }
        }
    }

    /** The Plans ahead of the latest ACTS; a row gone round, so that the oldest gives way. */
    private static final class Past {
        private final Plan[] plans = new Plan[MOST_UNDONE];
        private int next = 0;
        int held = 0;

        Past() {
            for (int k = 0; k < MOST_UNDONE; k++) {
                plans[k] = new Plan();
            }
        }

        void remember(Plan plan) {
            plans[next].copyFrom(plan);
            next = next + 1 < MOST_UNDONE ? next + 1 : 0;
            held = Math.min(held + 1, MOST_UNDONE);
        }

        void giveBack(Plan plan) {
            next = next > 0 ? next - 1 : MOST_UNDONE - 1;
            held--;
            plan.copyFrom(plans[next]);
        }

        void forget() {
            held = 0;
        }
    }

    /** Reads a TEXT into a Plan of its own, token by token, up to the first FAULT. */
    private static final class Reader {
        // WORDS are told as numbers, a byte a letter, so that they are compared and held without objects.
        private static final long DOCK = 0x646f636bL;
        private static final long GIVES = 0x6769766573L;
        private static final long TAKES = 0x74616b6573L;
        private static final long ROUTE = 0x726f757465L;
        private static final long COSTS = 0x636f737473L;
        private static final long HOLDS = 0x686f6c6473L;
        private static final long BLOCK = 0x626c6f636bL;

        private static final int WORD = 0;
        private static final int NUMBER = 1;
        private static final int STOP = 2;
        private static final int END = 3;
        private static final int NO_TOKEN = 4;
        private static final int LONGEST_WORD = 6;
        private static final int LONGEST_NUMBER = 4;

        private static final int MISPLACED = 1;
        private static final int TOLD_TWICE = 2;
        private static final int WRONG_NUMBER = 3;
        private static final int WRONG_DOCK = 4;
        private static final int TOO_MANY = 5;

        final Plan plan = new Plan();
        final long[] routeNames = new long[MOST_ROUTES];
        private final long[] dockNames = new long[MOST_DOCKS];
        private boolean blockTold = false;
        private int fault = NONE;
        private int at = 0;
        private int length = 0;
        private int kind = END;
        private int tokenAt = 0;
        private long value = 0;
        private byte[] tape = new byte[0];

        /** NONE, or of the FAULT 8 * place + kind. */
        int readText(byte[] bytes, int n) {
            tape = bytes;
            length = Math.min(n, bytes.length);
            at = 0;
            fault = NONE;
            blockTold = false;
            plan.tellNothing();
            readToken();
            for (int line = 0; line <= length && kind != END; line++) {
                if (!readLine()) {
                    return fault;
                }
            }
            return NONE;
        }

        private boolean readLine() {
            int route = plan.routes;
            boolean told;
            if (isWord(DOCK)) {
                told = readDock();
            } else if (isWord(ROUTE)) {
                told = readRouteName(route) && readEnds(route) && readNumbers(route);
            } else if (isWord(BLOCK)) {
                told = readBlock();
            } else {
                told = fails(MISPLACED);
            }
            return told && passStop();
        }

        private boolean readDock() {
            if (plan.docks >= MOST_DOCKS) {
                return fails(TOO_MANY);
            }
            readToken();
            if (!isNewName()) {
                return false;
            }
            int dock = plan.docks;
            dockNames[dock] = value;
            plan.gifts[dock] = 0;
            plan.docks++;
            readToken();
            if (!isWord(GIVES) && !isWord(TAKES)) {
                return true;
            }
            int sign = isWord(GIVES) ? 1 : -1;
            readToken();
            if (!isNumber(0, MOST_NUMBER)) {
                return false;
            }
            plan.gifts[dock] = sign * (int) value;
            readToken();
            return true;
        }

        private boolean readRouteName(int route) {
            if (route >= MOST_ROUTES) {
                return fails(TOO_MANY);
            }
            readToken();
            if (!isNewName()) {
                return false;
            }
            routeNames[route] = value;
            plan.routes++;
            return true;
        }

        private boolean readEnds(int route) {
            readToken();
            int begin = findDock(NONE);
            if (begin == NONE) {
                return false;
            }
            readToken();
            int end = findDock(begin);
            if (end == NONE) {
                return false;
            }
            plan.begins[route] = begin;
            plan.ends[route] = end;
            readToken();
            return true;
        }

        private boolean readNumbers(int route) {
            if (!passWord(COSTS) || !isNumber(0, MOST_NUMBER)) {
                return false;
            }
            plan.costs[route] = (int) value;
            readToken();
            if (!passWord(HOLDS) || !isNumber(1, MOST_NUMBER)) {
                return false;
            }
            plan.holds[route] = (int) value;
            readToken();
            return true;
        }

        private boolean readBlock() {
            if (blockTold) {
                return fails(TOLD_TWICE);
            }
            blockTold = true;
            readToken();
            if (!isNumber(1, MOST_BLOCK)) {
                return false;
            }
            plan.block = (int) value;
            readToken();
            return true;
        }

        private boolean passStop() {
            if (kind != STOP) {
                return fails(MISPLACED);
            }
            readToken();
            return true;
        }

        private boolean passWord(long word) {
            if (!isWord(word)) {
                return fails(MISPLACED);
            }
            readToken();
            return true;
        }

        private boolean isWord(long word) {
            return kind == WORD && value == word;
        }

        private boolean isName() {
            return kind == WORD && value != DOCK && value != GIVES && value != TAKES && value != ROUTE
                && value != COSTS && value != HOLDS && value != BLOCK;
        }

        private boolean isNewName() {
            if (!isName()) {
                return fails(MISPLACED);
            }
            if (numberOfDock() != NONE) {
                return fails(TOLD_TWICE);
            }
            for (int route = 0; route < plan.routes; route++) {
                if (routeNames[route] == value) {
                    return fails(TOLD_TWICE);
                }
            }
            return true;
        }

        private boolean isNumber(int least, int most) {
            if (kind != NUMBER) {
                return fails(MISPLACED);
            }
            return (value >= least && value <= most) || fails(WRONG_NUMBER);
        }

        private int numberOfDock() {
            for (int dock = 0; dock < plan.docks; dock++) {
                if (dockNames[dock] == value) {
                    return dock;
                }
            }
            return NONE;
        }

        /** The DOCK that is named, unlike another one; NONE: a FAULT. */
        private int findDock(int unlike) {
            int dock = isName() ? numberOfDock() : NONE;
            if (dock == NONE || dock == unlike) {
                fails(isName() ? WRONG_DOCK : MISPLACED);
                return NONE;
            }
            return dock;
        }

        private boolean fails(int kindOfFault) {
            fault = 8 * tokenAt + kindOfFault;
            return false;
        }

        private void readToken() {
            while (at < length && (tape[at] == ' ' || tape[at] == '\n')) {
                at++;
            }
            tokenAt = at;
            value = 0;
            kind = at < length ? kindOf(tape[at]) : END;
            if (kind == STOP || kind == NO_TOKEN) {
                at++;
            }
            while (at < length && (kind == WORD || kind == NUMBER) && kindOf(tape[at]) == kind) {
                value = kind == WORD ? value << 8 | tape[at] : value * 10 + tape[at] - '0';
                at++;
            }
            int longest = kind == NUMBER ? LONGEST_NUMBER : LONGEST_WORD;
            if (at - tokenAt > longest) {
                kind = NO_TOKEN;
            }
        }

        private static int kindOf(byte letter) {
            if (letter >= 'a' && letter <= 'z') {
                return WORD;
            }
            if (letter >= '0' && letter <= '9') {
                return NUMBER;
            }
            return letter == ';' ? STOP : NO_TOKEN;
        }
    }
}

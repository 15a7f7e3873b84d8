import java.util.ArrayDeque;
import java.util.ArrayList;
import java.util.Arrays;
import java.util.HashMap;
import java.util.HashSet;
import java.util.List;
import java.util.Map;
import java.util.NoSuchElementException;
import java.util.Set;

/** The document read a second time, word by word, with the Java library and without care for speed; random runs compare the class with it. */
final class Model {
    static final int NONE = -1;
    static final int HUB = 100;
    private static final Set<String> KEYWORDS =
        new HashSet<>(Arrays.asList("dock", "gives", "takes", "route", "costs", "holds", "block"));

    /** One way as it stands. */
    static final class Way {
        int begin;
        int end;
        int cost;
        long hold;
        int flow;
        int state;
        String name = "";

        Way copy() {
            Way w = new Way();
            w.begin = begin;
            w.end = end;
            w.cost = cost;
            w.hold = hold;
            w.flow = flow;
            w.state = state;
            w.name = name;
            return w;
        }

        int other(int place) {
            return place == begin ? end : begin;
        }
    }

    /** All but the tape. */
    static final class State {
        List<Integer> gifts = new ArrayList<>();
        List<Way> ways = new ArrayList<>();
        int routes = 0;
        int block = 4;
        int pointer = 0;
        int pivots = 0;
        List<int[]> log = new ArrayList<>();

        State copy() {
            State s = new State();
            s.gifts.addAll(gifts);
            for (Way w : ways) {
                s.ways.add(w.copy());
            }
            s.routes = routes;
            s.block = block;
            s.pointer = pointer;
            s.pivots = pivots;
            s.log.addAll(log);
            return s;
        }

        void begin() {
            while (ways.size() > routes) {
                ways.remove(ways.size() - 1);
            }
            for (Way w : ways) {
                w.flow = 0;
                w.state = 1;
            }
            for (int d = 0; d < gifts.size(); d++) {
                Way w = new Way();
                int gift = gifts.get(d);
                w.begin = gift >= 0 ? d : HUB;
                w.end = gift >= 0 ? HUB : d;
                w.cost = 10000;
                w.hold = Long.MAX_VALUE;
                w.flow = Math.abs(gift);
                ways.add(w);
            }
            pointer = 0;
            pivots = 0;
            log.clear();
        }

        /** The ways in the tree from one place to another, each once. */
        List<Integer> path(int from, int to) {
            Map<Integer, Integer> cameBy = new HashMap<>();
            ArrayDeque<Integer> queue = new ArrayDeque<>();
            queue.add(from);
            cameBy.put(from, NONE);
            while (!queue.isEmpty()) {
                int place = queue.remove();
                for (int k = 0; k < ways.size(); k++) {
                    Way w = ways.get(k);
                    if (w.state == 0 && (w.begin == place || w.end == place) && !cameBy.containsKey(w.other(place))) {
                        cameBy.put(w.other(place), k);
                        queue.add(w.other(place));
                    }
                }
            }
            List<Integer> found = new ArrayList<>();
            int at = to;
            while (at != from) {
                int k = cameBy.get(at);
                found.add(0, k);
                at = ways.get(k).other(at);
            }
            return found;
        }

        int price(int place) {
            int price = 0;
            int at = HUB;
            for (int k : path(HUB, place)) {
                Way w = ways.get(k);
                price += w.begin == at ? w.cost : -w.cost;
                at = w.other(at);
            }
            return price;
        }

        int gain(int k) {
            Way w = ways.get(k);
            return w.cost + price(w.begin) - price(w.end);
        }

        boolean good(int k) {
            int state = ways.get(k).state;
            return state == 1 && gain(k) < 0 || state == 2 && gain(k) > 0;
        }

        boolean end() {
            for (int k = 0; k < ways.size(); k++) {
                if (good(k)) {
                    return false;
                }
            }
            return true;
        }

        /** What enters, and the pointer then. */
        int[] entering() {
            int n = ways.size();
            int looked = 0;
            while (looked < n) {
                List<Integer> found = new ArrayList<>();
                for (int k = 0; k < block && looked < n; k++, looked++) {
                    int way = (pointer + looked) % n;
                    if (good(way)) {
                        found.add(way);
                    }
                }
                if (!found.isEmpty()) {
                    int best = found.get(0);
                    for (int way : found) {
                        best = Math.abs(gain(way)) > Math.abs(gain(best)) ? way : best;
                    }
                    return new int[] {best, (pointer + looked) % n};
                }
            }
            return null;
        }

        List<Integer> upPlaces(int place) {
            List<Integer> places = new ArrayList<>();
            int at = place;
            places.add(at);
            for (int k : path(place, HUB)) {
                at = ways.get(k).other(at);
                places.add(at);
            }
            return places;
        }

        Ring ring(int k) {
            Ring r = new Ring();
            Way w = ways.get(k);
            int a = w.state == 1 ? w.begin : w.end;
            int b = w.state == 1 ? w.end : w.begin;
            List<Integer> fromB = upPlaces(b);
            for (int place : upPlaces(a)) {
                if (fromB.contains(place)) {
                    r.apex = place;
                    break;
                }
            }
            r.ways.addAll(path(r.apex, a));
            r.ways.add(k);
            r.ways.addAll(path(b, r.apex));
            int at = r.apex;
            r.load = Long.MAX_VALUE;
            for (int way : r.ways) {
                Way v = ways.get(way);
                boolean along = v.begin == at;
                at = v.other(at);
                r.along.add(along);
                long room = way == k ? v.hold : !along ? v.flow : v.hold == Long.MAX_VALUE ? v.hold : v.hold - v.flow;
                if (room <= r.load) {
                    r.load = room;
                    r.leaving = way;
                    r.leavingAlong = along;
                }
            }
            return r;
        }

        int pivot() {
            int[] enters = entering();
            if (enters == null) {
                return -2;
            }
            List<Integer> before = prices();
            int k = enters[0];
            Ring r = ring(k);
            for (int i = 0; i < r.ways.size(); i++) {
                ways.get(r.ways.get(i)).flow += r.along.get(i) ? (int) r.load : (int) -r.load;
            }
            if (r.leaving == k) {
                ways.get(k).state = ways.get(k).state == 1 ? 2 : 1;
            } else {
                ways.get(k).state = 0;
                ways.get(r.leaving).state = r.leavingAlong ? 2 : 1;
            }
            pointer = enters[1];
            List<Integer> after = prices();
            int moved = 0;
            for (int d = 0; d < gifts.size(); d++) {
                moved += before.get(d).equals(after.get(d)) ? 0 : 1;
            }
            log.add(0, new int[] {k, r.leaving, (int) r.load, r.ways.size(), moved});
            while (log.size() > 16) {
                log.remove(16);
            }
            pivots++;
            return k;
        }

        List<Integer> prices() {
            List<Integer> prices = new ArrayList<>();
            for (int d = 0; d < gifts.size(); d++) {
                prices.add(price(d));
            }
            return prices;
        }

        int tender(int dock, boolean fromHub) {
            Way w = ways.get(routes + dock);
            return (w.begin == HUB) == fromHub ? w.flow : 0;
        }

        int tenders(boolean fromHub) {
            int sum = 0;
            for (int d = 0; d < gifts.size(); d++) {
                sum += tender(d, fromHub);
            }
            return sum;
        }

        int firstTender(boolean fromHub) {
            for (int d = 0; d < gifts.size(); d++) {
                if (tender(d, fromHub) > 0) {
                    return d;
                }
            }
            return -2;
        }

        int cost() {
            int sum = 0;
            for (int k = 0; k < routes; k++) {
                sum += ways.get(k).flow * ways.get(k).cost;
            }
            return sum;
        }

        /** The first way from a dock up that can't bear the change; NONE: all can. */
        int refusing(int dock, long by) {
            int at = dock;
            for (int k : path(dock, HUB)) {
                Way w = ways.get(k);
                long then = w.flow + (w.begin == at ? by : -by);
                if (then < 0 || then > w.hold) {
                    return k;
                }
                at = w.other(at);
            }
            return NONE;
        }
    }

    /** A ring in order. */
    static final class Ring {
        List<Integer> ways = new ArrayList<>();
        List<Boolean> along = new ArrayList<>();
        int apex = HUB;
        long load;
        int leaving;
        boolean leavingAlong;
    }

    private StringBuilder tape = new StringBuilder();
    private State s = new State();
    private final List<State> past = new ArrayList<>();
    private final State[] keeps = new State[2];

    private void act() {
        past.add(s.copy());
        if (past.size() > 12) {
            past.remove(0);
        }
    }

    int feed(int... numbers) {
        if (tape.length() + 20 > 600) {
            return NONE;
        }
        for (int number : numbers) {
            for (int k = 0; k < 4; k++) {
                tape.append((char) (number >>> (24 - 8 * k) & 255));
            }
        }
        return tape.length();
    }

    int text(int n) {
        if (n < 0 || n > tape.length()) {
            return NONE;
        }
        String text = tape.substring(0, n);
        tape = new StringBuilder();
        State told = new State();
        int fault = parse(text, told);
        if (fault >= 0) {
            return -2 - fault;
        }
        s = told;
        s.begin();
        past.clear();
        Arrays.fill(keeps, null);
        return s.gifts.size();
    }

    private static List<Object[]> tokens(String text) {
        List<Object[]> found = new ArrayList<>();
        java.util.regex.Matcher m = java.util.regex.Pattern.compile("[a-z]+|[0-9]+|[^ \\n]").matcher(text);
        while (m.find()) {
            String t = m.group();
            String sort = t.matches("[a-z]{1,6}") ? (KEYWORDS.contains(t) ? t : "NAME")
                : t.matches("[0-9]{1,4}") ? "NUMBER" : t.equals(";") ? ";" : "BAD";
            found.add(new Object[] {m.start(), sort, t});
        }
        found.add(new Object[] {text.length(), "END", ""});
        return found;
    }

    private static final String[][] FORMS = {
        {"dock", "NAME", ";"},
        {"dock", "NAME", "gives", "NUMBER", ";"},
        {"dock", "NAME", "takes", "NUMBER", ";"},
        {"route", "NAME", "NAME", "NAME", "costs", "NUMBER", "holds", "NUMBER", ";"},
        {"block", "NUMBER", ";"}};

    /** Token by token: first whether a form goes on with it, then what it means there. */
    private static int parse(String text, State told) {
        List<Object[]> tokens = tokens(text);
        Set<String> names = new HashSet<>();
        List<String> docks = new ArrayList<>();
        boolean blocked = false;
        int i = 0;
        while (!tokens.get(i)[1].equals("END")) {
            List<String> line = new ArrayList<>();
            Way way = new Way();
            for (boolean open = true; open; i++) {
                int place = (Integer) tokens.get(i)[0];
                String sort = (String) tokens.get(i)[1];
                String word = (String) tokens.get(i)[2];
                line.add(sort);
                if (!goesOn(line)) {
                    return 8 * place + 1;
                }
                String first = line.get(0);
                int at = line.size() - 1;
                int number = sort.equals("NUMBER") ? Integer.parseInt(word) : 0;
                if (sort.equals("NAME") && at == 1) {
                    if (!names.add(word)) {
                        return 8 * place + 2;
                    }
                    if (first.equals("dock")) {
                        docks.add(word);
                        told.gifts.add(0);
                    } else {
                        way.name = word;
                    }
                } else if (sort.equals("NAME")) {
                    int dock = docks.indexOf(word);
                    if (dock < 0 || at == 3 && dock == way.begin) {
                        return 8 * place + 4;
                    }
                    if (at == 2) {
                        way.begin = dock;
                    } else {
                        way.end = dock;
                    }
                } else if (sort.equals("NUMBER")) {
                    boolean holds = at == 7;
                    boolean block = first.equals("block");
                    if (number < (holds || block ? 1 : 0) || number > (block ? 24 : 999)) {
                        return 8 * place + 3;
                    }
                    if (block) {
                        told.block = number;
                    } else if (first.equals("dock")) {
                        told.gifts.set(docks.size() - 1, line.get(2).equals("gives") ? number : -number);
                    } else if (holds) {
                        way.hold = number;
                    } else {
                        way.cost = number;
                    }
                } else if (sort.equals("block")) {
                    if (blocked) {
                        return 8 * place + 2;
                    }
                    blocked = true;
                } else if (sort.equals("dock") && docks.size() == 8 || sort.equals("route") && told.routes == 16) {
                    return 8 * place + 5;
                } else if (sort.equals(";")) {
                    open = false;
                    if (first.equals("route")) {
                        told.ways.add(way);
                        told.routes++;
                    }
                }
            }
        }
        return -1;
    }

    private static boolean goesOn(List<String> line) {
        for (String[] form : FORMS) {
            if (line.size() <= form.length && line.equals(Arrays.asList(form).subList(0, line.size()))) {
                return true;
            }
        }
        return false;
    }

    private boolean hasDock(int d) {
        return d >= 0 && d < s.gifts.size();
    }

    private boolean hasRoute(int r) {
        return r >= 0 && r < s.routes;
    }

    private boolean hasWay(int w) {
        return w >= 0 && w < s.ways.size();
    }

    int dock(int d, int what) {
        if (!hasDock(d) || what < 0 || what > 6) {
            throw new NoSuchElementException();
        }
        int hanging = 0;
        for (int e = 0; e < s.gifts.size(); e++) {
            hanging += s.upPlaces(e).contains(d) ? 1 : 0;
        }
        List<Integer> up = s.path(d, HUB);
        int[] answers = {s.gifts.get(d), s.price(d), up.size(), up.get(0), hanging, s.tender(d, true), s.tender(d, false)};
        return answers[what];
    }

    int way(int k, int what) {
        if (!hasWay(k) || what < 0 || what > 6) {
            throw new NoSuchElementException();
        }
        Way w = s.ways.get(k);
        int[] answers = {w.begin == HUB ? NONE : w.begin, w.end == HUB ? NONE : w.end, w.cost,
            w.hold == Long.MAX_VALUE ? NONE : (int) w.hold, w.flow, w.state, s.gain(k)};
        return answers[what];
    }

    int ranked(int k) {
        List<Integer> docks = new ArrayList<>();
        for (int d = 0; d < s.gifts.size(); d++) {
            docks.add(d);
        }
        docks.sort((a, b) -> s.price(a) - s.price(b));
        return k >= 0 && k < docks.size() ? docks.get(k) : NONE;
    }

    int good() {
        int n = 0;
        for (int k = 0; k < s.ways.size(); k++) {
            n += s.good(k) ? 1 : 0;
        }
        return n;
    }

    int enters() {
        int[] found = s.entering();
        return found == null ? -2 : found[0];
    }

    int ring(int w, int k) {
        if (!hasWay(w) || k < NONE) {
            return NONE;
        }
        if (s.ways.get(w).state == 0) {
            return -2;
        }
        List<Integer> ways = s.ring(w).ways;
        return k == NONE ? ways.size() : k < ways.size() ? ways.get(k) : -2;
    }

    int closes(int w, int what) {
        if (!hasWay(w) || what < 0 || what > 2) {
            return NONE;
        }
        if (s.ways.get(w).state == 0) {
            return -2;
        }
        Ring r = s.ring(w);
        return what == 0 ? (int) r.load : what == 1 ? r.leaving : r.apex;
    }

    int strong() {
        for (Way w : s.ways) {
            if (w.state == 0) {
                boolean towards = s.path(w.end, HUB).size() < s.path(w.begin, HUB).size();
                if (w.flow == 0 && !towards || w.flow == w.hold && towards) {
                    return 0;
                }
            }
        }
        return 1;
    }

    int step() {
        if (s.end()) {
            return -2;
        }
        act();
        return s.pivot();
    }

    int run(int n) {
        if (n < 1 || n > 99) {
            return NONE;
        }
        if (s.end()) {
            return 0;
        }
        act();
        int made = 0;
        while (made < n && !s.end()) {
            s.pivot();
            made++;
        }
        return made;
    }

    int log(int ago, int what) {
        if (ago < 0 || ago >= s.log.size() || what < 0 || what > 4) {
            throw new NoSuchElementException();
        }
        return s.log.get(ago)[what];
    }

    int cost() {
        return s.cost();
    }

    int bill(int f, int g) {
        java.math.BigInteger whole = java.math.BigInteger.valueOf(s.cost()).multiply(java.math.BigInteger.valueOf(f))
            .add(java.math.BigInteger.valueOf(g));
        return whole.bitLength() < 32 ? whole.intValue() : Integer.MIN_VALUE;
    }

    long total() {
        long sum = s.cost();
        for (int k = s.routes; k < s.ways.size(); k++) {
            sum += 10000L * s.ways.get(k).flow;
        }
        return sum;
    }

    long proof() {
        long sum = 0;
        for (int k = 0; k < s.routes; k++) {
            if (s.gain(k) < 0) {
                sum += s.gain(k) * s.ways.get(k).hold;
            }
        }
        for (int d = 0; d < s.gifts.size(); d++) {
            sum -= (long) s.gifts.get(d) * s.price(d);
        }
        return sum;
    }

    int lack(int what) {
        return what == 0 ? s.tenders(true) : what == 1 ? s.firstTender(true)
            : what == 2 ? s.tenders(false) : what == 3 ? s.firstTender(false) : NONE;
    }

    int unit(int from, int to) {
        if (!hasDock(from) || !hasDock(to) || !s.end()) {
            return Integer.MIN_VALUE;
        }
        int n = s.gifts.size();
        long[][] d = new long[n][n];
        for (int i = 0; i < n; i++) {
            Arrays.fill(d[i], 1L << 40);
            d[i][i] = 0;
        }
        for (int k = 0; k < s.routes; k++) {
            Way w = s.ways.get(k);
            if (w.flow < w.hold) {
                d[w.begin][w.end] = Math.min(d[w.begin][w.end], w.cost);
            }
            if (w.flow > 0) {
                d[w.end][w.begin] = Math.min(d[w.end][w.begin], -w.cost);
            }
        }
        for (int m = 0; m < n; m++) {
            for (int i = 0; i < n; i++) {
                for (int j = 0; j < n; j++) {
                    d[i][j] = Math.min(d[i][j], d[i][m] + d[m][j]);
                }
            }
        }
        return d[from][to] > 1L << 30 ? Integer.MIN_VALUE : (int) d[from][to];
    }

    int range(int route, boolean most) {
        if (!hasRoute(route)) {
            return NONE;
        }
        if (!s.end()) {
            return -2;
        }
        State t = s.copy();
        for (int k = 0; k <= 999; k++) {
            t.ways.get(route).cost = most ? 999 - k : k;
            if (t.end()) {
                return t.ways.get(route).cost;
            }
        }
        throw new IllegalStateException("at the end the cost itself is one");
    }

    int tried(int what, int which, int n, boolean lack) {
        boolean can = (what == 0 || what == 1) && hasRoute(which) && n >= 0 && n <= 999
            || what == 2 && hasDock(which) && n >= -999 && n <= 999;
        if (!can) {
            return NONE;
        }
        State t = s.copy();
        if (what == 0) {
            t.ways.get(which).cost = n;
        } else if (what == 1) {
            t.ways.get(which).hold = n;
        } else {
            t.gifts.set(which, n);
        }
        t.begin();
        while (!t.end()) {
            t.pivot();
        }
        return lack ? t.tenders(true) : t.cost();
    }

    int load(int d, int by) {
        if (!hasDock(d) || by == 0 || Math.abs((long) s.gifts.get(d) + by) > 999) {
            return NONE;
        }
        int refusing = s.refusing(d, by);
        if (refusing != NONE) {
            return -2 - refusing;
        }
        act();
        int at = d;
        List<Integer> path = s.path(d, HUB);
        for (int k : path) {
            Way w = s.ways.get(k);
            w.flow += w.begin == at ? by : -by;
            at = w.other(at);
        }
        s.gifts.set(d, s.gifts.get(d) + by);
        return path.size();
    }

    int spare(int d, boolean less) {
        if (!hasDock(d)) {
            return NONE;
        }
        if (s.refusing(d, less ? -999999 : 999999) == NONE) {
            return 1000000;
        }
        int low = 0;
        while (s.refusing(d, less ? -(low + 1) : low + 1) == NONE) {
            low++;
        }
        return low;
    }

    int toll(int r, int n) {
        if (!hasRoute(r) || n < 0 || n > 999 || s.ways.get(r).cost == n) {
            return NONE;
        }
        act();
        int was = s.ways.get(r).cost;
        s.ways.get(r).cost = n;
        return was;
    }

    int hold(int r, int n) {
        if (!hasRoute(r) || n < 1 || n > 999 || s.ways.get(r).hold == n) {
            return NONE;
        }
        if (s.ways.get(r).state == 2 || s.ways.get(r).flow > n) {
            return -2;
        }
        act();
        int was = (int) s.ways.get(r).hold;
        s.ways.get(r).hold = n;
        return was;
    }

    int block(int n) {
        if (n < 1 || n > 24 || n == s.block) {
            return NONE;
        }
        act();
        int was = s.block;
        s.block = n;
        return was;
    }

    int anew() {
        act();
        int were = s.pivots;
        s.begin();
        return were;
    }

    int sheet(int i) {
        StringBuilder text = new StringBuilder();
        for (int k = 0; k < s.routes; k++) {
            if (s.ways.get(k).flow > 0) {
                text.append(s.ways.get(k).name).append(' ').append(s.ways.get(k).flow).append(';');
            }
        }
        return i < NONE ? NONE : i == NONE ? text.length() : i < text.length() ? text.charAt(i) : -2;
    }

    int undo() {
        if (past.isEmpty()) {
            return NONE;
        }
        s = past.remove(past.size() - 1);
        return past.size();
    }

    boolean keep(int k, boolean back) {
        if (k < 0 || k > 1 || back && keeps[k] == null) {
            return false;
        }
        if (back) {
            s = keeps[k].copy();
            past.clear();
        } else {
            keeps[k] = s.copy();
        }
        return true;
    }

    int count(int what) {
        int full = 0;
        int inTree = 0;
        for (int k = 0; k < s.ways.size(); k++) {
            full += s.ways.get(k).state == 2 ? 1 : 0;
            inTree += k < s.routes && s.ways.get(k).state == 0 ? 1 : 0;
        }
        int[] answers = {s.gifts.size(), s.routes, s.block, s.pointer, s.log.size(), s.pivots, past.size(),
            tape.length(), s.end() ? 1 : 0, full, inTree};
        return what >= 0 && what < answers.length ? answers[what] : NONE;
    }
}

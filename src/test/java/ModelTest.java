import java.util.Random;

/** Random runs of calls, the class beside the Model; the seeds are fixed, so that each run is the same again. */
public final class ModelTest {
    private static final int RUNS = 400;
    private static final int CALLS = 480;
    private final Check check;
    private final Random random;
    private final int seed;
    private final PivotDocks x = new PivotDocks();
    private final Model m = new Model();
    private int docks = 0;
    private int routes = 0;
    private boolean strongAlways = true;

    private ModelTest(Check check, int seed) {
        this.check = check;
        this.seed = seed;
        this.random = new Random(seed);
    }

    public static void main(String[] args) {
        Check check = new Check();
        for (int seed = 0; seed < RUNS; seed++) {
            new ModelTest(check, seed).run();
        }
        check.end("ModelTest");
    }

    private void run() {
        tell(seed % 5 == 0 ? spoiled(drawText()) : drawText());
        for (int k = 0; k < CALLS; k++) {
            call();
        }
    }

    private int draw(int least, int most) {
        return least + random.nextInt(most - least + 1);
    }

    private static String name(String sort, int number) {
        return sort + (char) ('a' + number);
    }

    private String drawText() {
        int most = random.nextInt(3) == 0 ? 999 : random.nextInt(2) == 0 ? 3 : 20;
        docks = draw(0, 8);
        if (random.nextInt(3) != 0) {
            docks = draw(4, 8);
        }
        routes = docks < 2 ? 0 : draw(docks, 16);
        StringBuilder text = new StringBuilder();
        for (int d = 0; d < docks; d++) {
            int gift = draw(-most, most);
            text.append("dock ").append(name("d", d));
            if (gift != 0 || random.nextBoolean()) {
                text.append(gift >= 0 ? " gives " : " takes ").append(Math.abs(gift));
            }
            text.append(random.nextBoolean() ? ";" : " ; \n");
        }
        for (int r = 0; r < routes; r++) {
            int from = random.nextInt(docks);
            int to = (from + 1 + random.nextInt(docks - 1)) % docks;
            text.append("route ").append(name("r", r)).append(' ').append(name("d", from)).append(' ').append(name("d", to))
                .append(" costs").append(draw(0, most)).append("holds").append(draw(1, most)).append(';');
        }
        if (random.nextInt(4) != 0 && text.length() < 590) {
            text.append("block ").append(draw(1, 24)).append(';');
        }
        return text.length() <= 600 ? text.toString() : drawText();
    }

    private String spoiled(String text) {
        String[] pieces = {"dock", "gives", "takes", "route", "costs", "holds", "block", ";", " ", "0", "999", "1000", "99999",
            "da", "db", "ra", "zz", "abcdefg", "abcdef", "A", "\t", "\u00e9", "\0", "block 3;", "dock zz;", "25", "24"};
        StringBuilder spoiled = new StringBuilder(text);
        for (int k = draw(1, 2); k > 0; k--) {
            int at = random.nextInt(spoiled.length() + 1);
            int cut = random.nextInt(3) == 0 ? Math.min(spoiled.length(), at + draw(1, 6)) : at;
            spoiled.replace(at, cut, random.nextBoolean() ? pieces[random.nextInt(pieces.length)] : "");
        }
        if (random.nextInt(4) == 0) {
            spoiled.setLength(random.nextInt(spoiled.length() + 1));
        }
        return spoiled.length() <= 600 ? spoiled.toString() : spoiled.substring(0, 600);
    }

    private void feed(int a, int b, int c, int d, int e) {
        due("feed", x.feed(a, b, c, d, e), m.feed(a, b, c, d, e));
    }

    private void tell(String text) {
        if (random.nextInt(10) == 0) {
            feed(random.nextInt(), 0x20202020, -1, 0, 7);
        }
        for (int at = 0; at < text.length(); at += 20) {
            feed(Check.four(text, at), Check.four(text, at + 4), Check.four(text, at + 8),
                Check.four(text, at + 12), Check.four(text, at + 16));
        }
        int n = random.nextInt(20) == 0 ? draw(-1, 601) : text.length();
        int answer = x.text(n);
        due("text(" + n + ") of " + text, answer, m.text(n));
        strongAlways = strongAlways || answer >= 0;
    }

    private void due(String call, long got, long want) {
        check.due("seed " + seed + ": " + call, got, want);
    }

    private int dock() {
        return random.nextInt(20) == 0 ? draw(-2, 9) : random.nextInt(Math.max(1, docks));
    }

    private int route() {
        return random.nextInt(20) == 0 ? draw(-2, 25) : random.nextInt(Math.max(1, routes));
    }

    private int way() {
        return random.nextInt(20) == 0 ? draw(-2, 25) : random.nextInt(Math.max(1, routes + docks));
    }

    private int number() {
        return random.nextInt(4) == 0 ? draw(-1001, 1001) : random.nextInt(20) == 0 ? random.nextInt() : draw(-4, 25);
    }

    private void call() {
        switch (random.nextInt(12)) {
            case 0: case 1: case 2: change(); break;
            case 3: case 4: tellAnew(); break;
            case 5: back(); break;
            case 6: case 7: askPlaces(); break;
            case 8: case 9: askRings(); break;
            case 10: askSums(); break;
            default: askEnd(); break;
        }
        if (strongAlways) {
            due("strong() of a tree that only pivots have changed", x.strong(), 1);
        }
    }

    private void change() {
        if (random.nextInt(3) != 0) {
            due("step()", x.step(), m.step());
        } else {
            int n = random.nextInt(3) == 0 ? draw(-1, 101) : draw(1, 3);
            due("run(" + n + ")", x.run(n), m.run(n));
        }
    }

    private void tellAnew() {
        int d = dock();
        int r = route();
        int n = number();
        switch (random.nextInt(random.nextInt(4) == 0 ? 6 : 4)) {
            case 0: due("load(" + d + ", " + n + ")", x.load(d, n), m.load(d, n)); strongAlways = false; break;
            case 1: due("toll(" + r + ", " + n + ")", x.toll(r, n), m.toll(r, n)); break;
            case 2: due("hold(" + r + ", " + n + ")", x.hold(r, n), m.hold(r, n)); strongAlways = false; break;
            case 3: due("spare(" + d + ")", x.spare(d, n > 5), m.spare(d, n > 5)); break;
            case 4: due("block(" + n + ")", x.block(n), m.block(n)); break;
            default: due("anew()", x.anew(), m.anew()); break;
        }
    }

    private void back() {
        int k = draw(0, 1) + (random.nextInt(15) == 0 ? draw(-2, 2) : 0);
        switch (random.nextInt(10)) {
            case 0: case 1: due("keep(" + k + ", false)", x.keep(k, false) ? 1 : 0, m.keep(k, false) ? 1 : 0); break;
            case 2: due("keep(" + k + ", true)", x.keep(k, true) ? 1 : 0, m.keep(k, true) ? 1 : 0); strongAlways = false; break;
            case 3: if (random.nextInt(6) == 0) tell(random.nextInt(3) == 0 ? spoiled(drawText()) : drawText()); break;
            default: due("undo()", x.undo(), m.undo()); break;
        }
    }

    private void askPlaces() {
        int d = dock();
        int w = way();
        int what = draw(0, 6) + (random.nextInt(20) == 0 ? draw(-8, 8) : 0);
        due("dock(" + d + ", " + what + ")", Check.answer(() -> x.dock(d, what)), Check.answer(() -> m.dock(d, what)));
        due("way(" + w + ", " + what + ")", Check.answer(() -> x.way(w, what)), Check.answer(() -> m.way(w, what)));
        int k = dock();
        due("ranked(" + k + ")", x.ranked(k), m.ranked(k));
        int ago = draw(0, 6) + draw(-1, 10) * draw(0, 1);
        due("log(" + ago + ", " + what + ")", Check.answer(() -> x.log(ago, what)), Check.answer(() -> m.log(ago, what)));
    }

    private void askRings() {
        int w = way();
        int k = draw(-2, 9);
        due("good()", x.good(), m.good());
        due("enters()", x.enters(), m.enters());
        due("ring(" + w + ", " + k + ")", x.ring(w, k), m.ring(w, k));
        due("closes(" + w + ", " + k + ")", x.closes(w, k), m.closes(w, k));
        due("closes(" + w + ", 0)", x.closes(w, 0), m.closes(w, 0));
        due("closes(" + w + ", 1)", x.closes(w, 1), m.closes(w, 1));
        due("closes(" + w + ", 2)", x.closes(w, 2), m.closes(w, 2));
        due("strong()", x.strong(), m.strong());
    }

    private void askSums() {
        int f = random.nextInt(3) == 0 ? random.nextInt() : draw(-5, 5);
        int g = random.nextInt(3) == 0 ? random.nextInt() : draw(-5, 5);
        int what = draw(-1, 11);
        due("cost()", x.cost(), m.cost());
        due("bill(" + f + ", " + g + ")", x.bill(f, g), m.bill(f, g));
        due("total()", x.total(), m.total());
        due("proof()", x.proof(), m.proof());
        due("lack(" + what + ")", x.lack(what % 5), m.lack(what % 5));
        due("count(" + what + ")", x.count(what), m.count(what));
        int i = draw(-2, 40);
        due("sheet(" + i + ")", x.sheet(i), m.sheet(i));
        due("sheet(-1)", x.sheet(-1), m.sheet(-1));
    }

    private void askEnd() {
        int from = dock();
        int to = dock();
        int r = route();
        int n = number();
        int what = draw(0, 2) + (random.nextInt(20) == 0 ? draw(-2, 3) : 0);
        due("unit(" + from + ", " + to + ")", x.unit(from, to), m.unit(from, to));
        if (random.nextInt(4) == 0) {
            due("range(" + r + ")", x.range(r, n > 5), m.range(r, n > 5));
        }
        int which = what == 2 ? from : r;
        due("tried(" + what + ", " + which + ", " + n + ")", x.tried(what, which, n, to > 3), m.tried(what, which, n, to > 3));
        if (x.count(8) == 1) {
            due("proof() at the end is total()", x.proof(), x.total());
        }
    }
}

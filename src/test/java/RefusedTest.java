import java.util.ArrayList;
import java.util.List;
import java.util.function.Supplier;

/** Calls that are refused, and questions: beside a twin that wasn't asked, all is alike, what can be undone and what is kept too. */
public final class RefusedTest {
    /** A call, and what is due. */
    private static final class Asked {
        final String name;
        final Question question;
        final long want;

        Asked(String name, Question question, long want) {
            this.name = name;
            this.question = question;
            this.want = want;
        }
    }

    private interface Question {
        long ask(PivotDocks x);
    }

    private static final Check CHECK = new Check();
    private static final int MIN = Integer.MIN_VALUE;
    private static final int MAX = Integer.MAX_VALUE;
    private static final long THROWS = Check.THROWS;

    public static void main(String[] args) {
        List<Asked> both = refusedAnywhere();
        for (Asked asked : both) {
            changesNothing(asked, RefusedTest::halfWay);
            changesNothing(asked, RefusedTest::atTheEnd);
        }
        for (Asked asked : refusedHalfWay()) {
            changesNothing(asked, RefusedTest::halfWay);
        }
        for (Asked asked : refusedAtTheEnd()) {
            changesNothing(asked, RefusedTest::atTheEnd);
        }
        CHECK.end("RefusedTest");
    }

    /** One pivot from the end; something can be undone, something is kept, something is on the tape. */
    private static PivotDocks halfWay() {
        PivotDocks x = Edges.begun();
        x.keep(0, false);
        x.step();
        x.step();
        x.block(7);
        Check.feed(x, "dock a;");
        return x;
    }

    private static PivotDocks atTheEnd() {
        PivotDocks x = halfWay();
        x.step();
        return x;
    }

    private static long answer(Asked asked, PivotDocks x) {
        try {
            return asked.question.ask(x);
        } catch (java.util.NoSuchElementException e) {
            return THROWS;
        }
    }

    private static void changesNothing(Asked asked, Supplier<PivotDocks> state) {
        PivotDocks x = state.get();
        PivotDocks y = state.get();
        CHECK.due(asked.name, answer(asked, x), asked.want);
        CHECK.same(asked.name + ": all stays", View.of(x), View.of(y));
        CHECK.due(asked.name + ": undo()", x.undo(), y.undo());
        CHECK.same(asked.name + ": what is undone", View.of(x), View.of(y));
        PivotDocks z = state.get();
        answer(asked, z);
        CHECK.due(asked.name + ": nothing is in keep 1", z.keep(1, true), false);
        CHECK.due(asked.name + ": something is in keep 0", z.keep(0, true), true);
        CHECK.same(asked.name + ": what is kept", View.butTape(z), View.butTape(Edges.begun()));
        CHECK.due(asked.name + ": the tape", z.text(7), 1);
    }

    private static List<Asked> refusedAnywhere() {
        List<Asked> all = new ArrayList<>();
        for (int far : new int[] {MIN, -2, -1, 24, MAX}) {
            all.add(new Asked("text", x -> x.text(far), -1));
            all.add(new Asked("dock", x -> x.dock(far, 0), THROWS));
            all.add(new Asked("dock", x -> x.dock(0, far), THROWS));
            all.add(new Asked("way", x -> x.way(far, 0), THROWS));
            all.add(new Asked("way", x -> x.way(0, far), THROWS));
            all.add(new Asked("log", x -> x.log(far, 0), THROWS));
            all.add(new Asked("log", x -> x.log(0, far), THROWS));
            all.add(new Asked("ranked", x -> x.ranked(far), -1));
            all.add(new Asked("ring", x -> x.ring(far, 0), -1));
            all.add(new Asked("closes", x -> x.closes(far, 0), -1));
            all.add(new Asked("closes", x -> x.closes(1, far), -1));
            all.add(new Asked("lack", x -> x.lack(far), -1));
            all.add(new Asked("count", x -> x.count(far), -1));
            all.add(new Asked("unit", x -> x.unit(far, 0), MIN));
            all.add(new Asked("unit", x -> x.unit(0, far), MIN));
            all.add(new Asked("range", x -> x.range(far, true), -1));
            all.add(new Asked("tried", x -> x.tried(far, 0, 1, true), -1));
            all.add(new Asked("tried", x -> x.tried(0, far, 1, true), -1));
            all.add(new Asked("tried", x -> x.tried(2, far, 1, false), -1));
            all.add(new Asked("load", x -> x.load(far, 1), -1));
            all.add(new Asked("spare", x -> x.spare(far, true), -1));
            all.add(new Asked("toll", x -> x.toll(far, 1), -1));
            all.add(new Asked("hold", x -> x.hold(far, 1), -1));
            all.add(new Asked("keep", x -> x.keep(far, false) ? 1 : 0, 0));
            all.add(new Asked("keep", x -> x.keep(far, true) ? 1 : 0, 0));
        }
        for (int far : new int[] {MIN, -1, 1000, MAX}) {
            all.add(new Asked("tried costs", x -> x.tried(0, 0, far, true), -1));
            all.add(new Asked("tried holds", x -> x.tried(1, 0, far, true), -1));
            all.add(new Asked("tried gift", x -> x.tried(2, 0, far == -1 ? -1000 : far, true), -1));
            all.add(new Asked("load far", x -> x.load(0, far == -1 ? -1007 : far), -1));
            all.add(new Asked("toll far", x -> x.toll(0, far), -1));
            all.add(new Asked("hold far", x -> x.hold(0, far), -1));
            all.add(new Asked("block far", x -> x.block(far), -1));
            all.add(new Asked("run far", x -> x.run(far), -1));
        }
        all.add(new Asked("keep(1, true)", x -> x.keep(1, true) ? 1 : 0, 0));
        all.add(new Asked("load by 0", x -> x.load(0, 0), -1));
        all.add(new Asked("it costs that", x -> x.toll(0, 2), -1));
        all.add(new Asked("it holds that", x -> x.hold(0, 9), -1));
        all.add(new Asked("hold 0", x -> x.hold(0, 0), -1));
        all.add(new Asked("it is full", x -> x.hold(1, 4), -2));
        all.add(new Asked("its flow is more", x -> x.hold(0, 2), -2));
        all.add(new Asked("block is that", x -> x.block(7), -1));
        all.add(new Asked("block 0", x -> x.block(0), -1));
        all.add(new Asked("block 25", x -> x.block(25), -1));
        all.add(new Asked("run 0", x -> x.run(0), -1));
        all.add(new Asked("run 100", x -> x.run(100), -1));
        all.add(new Asked("sheet(-2)", x -> x.sheet(-2), -1));
        all.add(new Asked("sheet(MAX)", x -> x.sheet(MAX), -2));
        all.add(new Asked("ring of one in the tree", x -> x.ring(0, 0), -2));
        all.add(new Asked("ring, not so many", x -> x.ring(1, 9), -2));
        all.add(new Asked("ring, k below NONE", x -> x.ring(1, -2), -1));
        all.add(new Asked("closes of one in the tree", x -> x.closes(0, 0), -2));
        all.add(new Asked("tried, and it can be", x -> x.tried(0, 2, 8, false), 23));
        all.add(new Asked("tried, and it holds nothing", x -> x.tried(1, 2, 0, true), 1));
        all.add(new Asked("bill", x -> x.bill(MAX, MAX), MIN));
        return all;
    }

    private static List<Asked> refusedHalfWay() {
        List<Asked> all = new ArrayList<>();
        all.add(new Asked("unit, not the end", x -> x.unit(0, 0), MIN));
        all.add(new Asked("range, not the end", x -> x.range(0, false), -2));
        all.add(new Asked("enters", PivotDocks::enters, 2));
        all.add(new Asked("good", PivotDocks::good, 1));
        all.add(new Asked("load, its tender can't", x -> x.load(0, -5), -5));
        all.add(new Asked("load, the tender from the hub can't", x -> x.load(2, 2), -7));
        return all;
    }

    private static List<Asked> refusedAtTheEnd() {
        List<Asked> all = new ArrayList<>();
        all.add(new Asked("step", PivotDocks::step, -2));
        all.add(new Asked("run", x -> x.run(1), 0));
        all.add(new Asked("run", x -> x.run(99), 0));
        all.add(new Asked("enters", PivotDocks::enters, -2));
        all.add(new Asked("load, the tender can't", x -> x.load(0, -4), -5));
        all.add(new Asked("load, the route can't", x -> x.load(2, 2), -4));
        all.add(new Asked("load, the second way can't", x -> x.load(2, -4), -5));
        return all;
    }
}

/** All that can be asked of an object, as one text: for small texts, as an object is used for 512 calls at most. */
final class View {
    private final PivotDocks x;
    private final StringBuilder seen = new StringBuilder();

    private View(PivotDocks x) {
        this.x = x;
    }

    static String of(PivotDocks x) {
        return butTape(x) + " tape " + x.count(7);
    }

    static String butTape(PivotDocks x) {
        View view = new View(x);
        int docks = x.count(0);
        int routes = x.count(1);
        view.seeCounts();
        for (int dock = 0; dock < docks; dock++) {
            view.seeDock(dock, docks);
        }
        for (int way = 0; way < routes + docks; way++) {
            view.seeWay(way);
        }
        for (int route = 0; route < routes; route++) {
            view.see("range", x.range(route, false));
            view.see("", x.range(route, true));
        }
        view.seeLog();
        view.seen.append(" sheet ").append(Check.sheet(x));
        return view.seen.toString();
    }

    private void see(String name, long answer) {
        seen.append(' ').append(name).append(name.isEmpty() ? "" : " ").append(answer);
    }

    private void seeCounts() {
        for (int what = 0; what <= 10; what++) {
            if (what != 7) {
                see("count" + what, x.count(what));
            }
        }
        see("good", x.good());
        see("enters", x.enters());
        see("strong", x.strong());
        see("cost", x.cost());
        see("total", x.total());
        see("proof", x.proof());
        for (int what = 0; what < 4; what++) {
            see("lack" + what, x.lack(what));
        }
    }

    private void seeDock(int dock, int docks) {
        see("dock", dock);
        for (int what = 0; what < 7; what++) {
            see("", x.dock(dock, what));
        }
        see("ranked", x.ranked(dock));
        see("spare", x.spare(dock, false));
        see("", x.spare(dock, true));
        for (int to = 0; to < docks; to++) {
            see("unit", x.unit(dock, to));
        }
    }

    private void seeWay(int way) {
        see("way", way);
        for (int what = 0; what < 7; what++) {
            see("", x.way(way, what));
        }
        see("ring", x.ring(way, -1));
        for (int what = 0; what < 3; what++) {
            see("closes", x.closes(way, what));
        }
    }

    private void seeLog() {
        for (int ago = 0; ago < x.count(4); ago++) {
            for (int what = 0; what < 5; what++) {
                see(what == 0 ? "log" : "", x.log(ago, what));
            }
        }
    }
}

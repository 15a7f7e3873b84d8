/** States that the tests of edges begin from; what is said of them was gone through by hand. */
final class Edges {
    private Edges() {
    }

    /** Ways: 0 nm, 1 ms, 2 ns; tenders 3 of n (to the hub, 7), 4 of m (to the hub, 0), 5 of s (from the hub, 4). */
    static PivotDocks begun() {
        return Check.told("dock n gives 7;dock m;dock s takes 4;route nm n m costs 2 holds 9;"
            + "route ms m s costs 3 holds 3;route ns n s costs 8 holds 5;block 24;");
    }

    /** Three pivots later: nm 3, ns 1 and the tender of n 3 in the tree, ms full with 3. */
    static PivotDocks ended() {
        PivotDocks x = begun();
        x.step();
        x.step();
        x.step();
        return x;
    }

    /** Eight docks a to h, routes 0 to 6 from each to the next one; nine units go from a to h in seven pivots. */
    static PivotDocks chain() {
        return chainWith("");
    }

    static PivotDocks chainWith(String more) {
        StringBuilder text = new StringBuilder();
        for (char d = 'a'; d <= 'h'; d++) {
            text.append("dock ").append(d).append(d == 'a' ? " gives 9;" : d == 'h' ? " takes 9;" : ";");
        }
        for (char d = 'a'; d < 'h'; d++) {
            text.append("route r").append(d).append(' ').append(d).append(' ').append((char) (d + 1)).append(" costs 1 holds 9;");
        }
        return Check.told(text + more + "block 24;");
    }

    /** As many docks and routes as can be, by blocks of three; a gives what all others take, by two routes to each of them. */
    static PivotDocks busy() {
        StringBuilder text = new StringBuilder("dock a gives 60;");
        for (char d = 'b'; d <= 'h'; d++) {
            text.append("dock ").append(d).append(" takes 9;");
        }
        for (int r = 0; r < 16; r++) {
            text.append("route r").append((char) ('a' + r)).append(" a ").append((char) ('b' + r % 7)).append(" costs").append(r).append("holds5;");
        }
        return Check.told(text + "block 3;");
    }

    /** As many docks and routes as can be; nothing flows. */
    static PivotDocks most() {
        StringBuilder text = new StringBuilder();
        for (char d = 'a'; d <= 'h'; d++) {
            text.append("dock ").append(d).append(';');
        }
        for (char r = 'a'; r < 'q'; r++) {
            text.append("route r").append(r).append(" a b costs 1 holds 1;");
        }
        return Check.told(text.toString());
    }

    /** Z hangs from y by a route for nothing, so what both take comes by the tender of y, way 4. */
    static PivotDocks muchLacking() {
        PivotDocks x = Check.told("dock x gives 5;dock y takes 999;dock z takes 1;route a x z costs 1 holds 999;"
            + "route b x y costs 2 holds 999;route c y z costs 0 holds 999;block 24;");
        x.run(9);
        x.toll(0, 9);
        x.run(9);
        x.load(2, -998);
        return x;
    }

    /** The same the other way round: what y and z give goes by the tender of y. */
    static PivotDocks muchStuck() {
        PivotDocks x = Check.told("dock x takes 5;dock y gives 999;dock z gives 1;route a z x costs 1 holds 999;"
            + "route b y x costs 2 holds 999;route c z y costs 0 holds 999;block 24;");
        x.run(9);
        x.toll(0, 9);
        x.run(9);
        x.load(2, 998);
        return x;
    }

    /** The tender of z, way 2, is empty and gains -7, as the route by which z hangs has got dear; nothing else is good. */
    static PivotDocks goodTender() {
        PivotDocks x = Check.told("dock z takes 1;dock y takes 99;dock x gives 5;route a x z costs 1 holds 99;route b x y costs 2 holds 99;block 24;");
        x.run(9);
        x.toll(0, 9);
        return x;
    }

    /** One route, as dear and as full as can be. */
    static PivotDocks dear() {
        PivotDocks x = Check.told("dock a gives 999;dock b takes 999;route r a b costs 999 holds 999;");
        x.run(9);
        return x;
    }

    /** N pivots: the first one brings way 4 into the tree, then ways 0 to 3 are turned over, one behind the other. */
    static PivotDocks turned(int n) {
        PivotDocks x = Check.told("dock a gives 99;dock b takes 99;route p a b costs 5 holds 1;route q a b costs 5 holds 2;"
            + "route r a b costs 5 holds 3;route s a b costs 5 holds 4;route t a b costs 2 holds 99;block 24;");
        x.run(99);
        for (int k = 1; k < n; k++) {
            int way = turnedWay(k);
            x.toll(way, x.way(way, 5) == 1 ? 1 : 5);
            x.step();
        }
        return x;
    }

    static int turnedWay(int k) {
        return k == 0 ? 4 : (k - 1) % 4;
    }

    static int turnedLoad(int k) {
        return k == 0 ? 99 : turnedWay(k) + 1;
    }

    /** By blocks of one 111 pivots till the end, more than one run() makes; found by a search that changed a text bit by bit. */
    static PivotDocks farAway() {
        return Check.told("dock a gives348;dock b gives9;dock c takes125;dock d takes47;dock e gives83;dock f gives80;dock g gives0;dock h gives3;"
            + "route i f e costs8holds23;route j b d costs143holds7;route k a c costs949holds54;route l f d costs999holds34;"
            + "route m b d costs947holds5;route n d c costs27holds654;route o h d costs857holds324;route p b d costs830holds175;"
            + "route q g d costs234holds670;route r a d costs679holds1;route s f g costs174holds10;route t f d costs323holds17;"
            + "route u e g costs32holds12;route v f d costs148holds57;route w e d costs91holds106;route x a d costs83holds8;block1;");
    }
}

/** Promises 23 to 26 where the document names an edge: no passes, one, ten and more, seven and more. */
final class SeenEdgesTest implements Kinds {
    private static final int HAND = -1;

    public static void main(String[] args) {
        noPasses();
        onePass();
        oneSetOfTen();
        behindTheTenth();
        tenThatDoNothing();
        leastIsTheNumber();
        rings();
        orders();
        ordersOfSeven();
        Check.end();
    }

    /** How many sets there are for a place, the least, those in all and those in any. */
    private static void sets(String what, CupsAndPea x, int place, int many, int least, int all, int any) {
        Check.due(what + ": feints " + place, many, x.feints(place));
        Check.due(what + ": the least for " + place, least, x.surely(place, 0));
        Check.due(what + ": in all for " + place, all, x.surely(place, 1));
        Check.due(what + ": in any for " + place, any, x.surely(place, 2));
    }

    private static void noSet(String what, CupsAndPea x, int place) {
        sets(what, x, place, 0, Check.NONE, Check.NONE, Check.NONE);
    }

    private static void noPasses() {
        CupsAndPea x = new CupsAndPea();
        x.cups(6);
        for (int begin = HAND; begin < 6; begin++) {
            x.pea(begin);
            for (int place = HAND; place < 6; place++) {
                if (place == begin) {
                    sets("no passes", x, place, 1, 0, 0, 0);
                } else {
                    noSet("no passes", x, place);
                }
                Check.due("orders of none", place == begin ? 1 : 0, x.orders(place));
            }
        }
        Check.due("rings of none", 0, x.rings());
    }

    private static void onePass() {
        CupsAndPea x = Check.with(3, LIFT, 0, 1);
        sets("one lift", x, HAND, 1, 0, 0, 0);
        sets("one lift", x, 0, 1, 1, 1, 1);
        noSet("one lift", x, 1);
        noSet("one lift", x, 2);
        Check.due("orders of one", 1, x.orders(HAND));
        Check.due("orders of one", 0, x.orders(0));
        x.change(0, FEINT);
        sets("one feint, which is one either way", x, 0, 2, 0, 0, 1);
        noSet("one feint", x, HAND);
        x.change(0, DROP);
        x.pea(HAND);
        sets("one drop", x, 1, 1, 0, 0, 0);
        sets("one drop", x, HAND, 1, 1, 1, 1);
    }

    private static CupsAndPea lifts(int n) {
        CupsAndPea x = new CupsAndPea();
        for (int i = 0; i < n; i++) {
            x.pass(LIFT, 0, 1);
        }
        return x;
    }

    /** Any lift takes it; so all of them must be feints. */
    private static void oneSetOfTen() {
        for (int n = 1; n <= 10; n++) {
            int all = (1 << n) - 1;
            sets(n + " lifts", lifts(n), 0, 1, all, all, all);
            // With one lift no set but the empty one is left; with more, each may be a feint, but not all.
            sets(n + " lifts", lifts(n), HAND, all, 0, 0, n == 1 ? 0 : all);
        }
    }

    private static void behindTheTenth() {
        for (int n = 11; n <= 14; n++) {
            CupsAndPea x = lifts(n);
            noSet(n + " lifts", x, 0);
            sets(n + " lifts", x, HAND, 1024, 0, 0, 1023);
            x.change(10, FEINT);
            if (n == 11) {
                sets("the eleventh is a feint", x, 0, 1, 1023, 1023, 1023);
            } else {
                noSet("the twelfth is a lift", x, 0);
            }
            Check.due("nothing changed", FEINT, x.change(10, LIFT));
        }
    }

    private static void tenThatDoNothing() {
        CupsAndPea x = new CupsAndPea();
        for (int i = 0; i < 9; i++) {
            x.pass(PASS, 1, 2);
        }
        sets("nine", x, 0, 512, 0, 0, 511);
        x.pass(PASS, 1, 2);
        sets("ten", x, 0, 1024, 0, 0, 1023);
        x.pass(PASS, 0, 1);
        sets("the eleventh brings it away", x, 1, 1024, 0, 0, 1023);
        noSet("the eleventh brings it away", x, 0);
    }

    /** The least set is that of the least number, not that of the fewest passes. */
    private static void leastIsTheNumber() {
        // The whirl: 1 to 2, 2 to 0, 0 to 1.
        CupsAndPea x = Check.with(3, PASS, 0, 1, WHIRL, 1, 2, PASS, 0, 2);
        // {}: 0; {0}: 1; {1}: 1; {0, 1}: 2; {2}: 2; {0, 2}: 1; {1, 2}: 1; all: 0.
        sets("the first two, or the last", x, 2, 2, 3, 0, 7);
        sets("one of the first two", x, 1, 4, 1, 0, 7);
        sets("none or all", x, 0, 2, 0, 0, 7);
        noSet("never lifted", x, HAND);
        CupsAndPea y = Check.with(4, PASS, 0, 1, PASS, 0, 2, PASS, 1, 3);
        // {}: 3; {0}: 2; {1}: 3; {0, 1}: 0; {2}: 1; {0, 2}: 2; {1, 2}: 1; all: 0.
        sets("the first two, or all", y, 0, 2, 3, 3, 7);
        sets("not the first", y, 3, 2, 0, 0, 2);
        sets("the first, not the second", y, 2, 2, 1, 1, 5);
        sets("the last, not the first", y, 1, 2, 4, 4, 6);
    }

    private static void rings() {
        int[] powers = {1, 15, 225, 3375, 50625, 759375};
        for (int a = 0; a < 6; a++) {
            for (int b = 0; b < 6; b++) {
                if (a == b) {
                    continue;
                }
                int third = a != 0 && b != 0 ? 0 : a != 1 && b != 1 ? 1 : 2;
                for (int kind = 0; kind < 7; kind++) {
                    CupsAndPea x = Check.with(6, kind, a, b);
                    int to = kind == WHIRL ? third : b;
                    Check.due("rings of kind " + kind + " of " + a + ", " + b, powers[a] + powers[to], x.rings());
                }
            }
        }
        CupsAndPea all = new CupsAndPea();
        all.cups(6);
        for (int i = 1; i <= 14; i++) {
            all.pass(QUICK, 4, 5);
            Check.due("as often as there are passes", i * (50625 + 759375), all.rings());
        }
    }

    private static void orders() {
        // Lift and drop: in the hand if the drop comes first, at 2 if the lift does.
        CupsAndPea x = Check.with(6, LIFT, 0, 1, DROP, 1, 2);
        int hand = 1;
        for (int size = 2; size <= 7; size++) {
            Check.due("in the hand, of " + size, hand, x.orders(HAND));
            Check.due("at 2, of " + size, hand, x.orders(2));
            for (int place = 0; place < 6; place++) {
                Check.due("elsewhere, of " + size, place == 2 ? hand : 0, x.orders(place));
            }
            x.pass(FEINT, 3, 4);
            // All orders of one more: as many times more as there are passes then.
            hand *= size + 1;
        }
        Check.due("of eight", Check.SIZE, x.orders(HAND));
        Check.due("of eight", Check.SIZE, x.orders(2));
        x.back();
        Check.due("of seven again", 2520, x.orders(2));
    }

    private static void ordersOfSeven() {
        CupsAndPea x = Check.with(6, SLOW, 0, 1, SLOW, 1, 2, SLOW, 2, 3, SLOW, 3, 4, SLOW, 4, 5);
        int sum = 0;
        for (int place = HAND; place < 6; place++) {
            sum += x.orders(place);
        }
        Check.due("all orders of five", 120, sum);
        // To 5 only in their own order.
        Check.due("one order", 1, x.orders(5));
        // It stays if no pass takes it further: each order brings it away by the first pass.
        Check.due("never at 0", 0, x.orders(0));
        x.pass(FEINT, 0, 1);
        x.pass(WHIRL, 4, 5);
        sum = 0;
        for (int place = HAND; place < 6; place++) {
            sum += x.orders(place);
        }
        Check.due("all orders of seven", 5040, sum);
        x.pea(HAND);
        Check.due("in the hand", 5040, x.orders(HAND));
        Check.due("not at 0", 0, x.orders(0));
    }
}

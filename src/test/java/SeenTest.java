/** Promises 23 to 26: what was seen of it. */
final class SeenTest implements Kinds {
    public static void main(String[] args) {
        feints();
        surely();
        rings();
        orders();
        Check.end();
    }

    private static void feints() {
        CupsAndPea x = Check.with(3, PASS, 0, 1, PASS, 1, 2);
        // {}: at 2; {0}: at 0; {1}: at 1; {0, 1}: at 0.
        int[] due = {0, 2, 1, 1};
        for (int place = -1; place < 3; place++) {
            Check.due("feints " + place, due[place + 1], x.feints(place));
        }
        x.change(0, FEINT);
        // It is one either way.
        int[] then = {0, 4, 0, 0};
        for (int place = -1; place < 3; place++) {
            Check.due("feints then " + place, then[place + 1], x.feints(place));
        }
        Check.due("feints 3", Check.BEYOND, x.feints(3));
        Check.due("feints -2", Check.BEYOND, x.feints(-2));
        CupsAndPea hand = Check.with(3, LIFT, 0, 1);
        Check.due("into the hand", 1, hand.feints(-1));
        CupsAndPea none = new CupsAndPea();
        Check.due("of no passes", 1, none.feints(0));
        Check.due("of no passes elsewhere", 0, none.feints(1));
        CupsAndPea many = new CupsAndPea();
        for (int i = 0; i < 10; i++) {
            many.pass(SLOW, 1, 2);
        }
        Check.due("of ten", 1024, many.feints(0));
        many.pass(PASS, 0, 1);
        Check.due("the eleventh is as it is", 1024, many.feints(1));
        many.pass(LIFT, 1, 0);
        many.pass(WHIRL, 1, 0);
        many.pass(DROP, 1, 0);
        Check.due("the last is as it is", 1024, many.feints(0));
        Check.due("nothing changed", PASS, many.of(10, 0));
    }

    private static void surely() {
        CupsAndPea x = Check.with(3, PASS, 1, 2, PASS, 0, 1, PASS, 0, 1);
        // To 0: {} and {1, 2}, each with and without 0. To 1: {1}, {2}, with and without 0. To 2: none.
        int[][] due = {{0, 0, 0}, {0, 0, 7}, {2, 0, 7}, {0, 0, 0}};
        for (int place = 0; place < 2; place++) {
            for (int what = 0; what < 3; what++) {
                Check.due("surely " + place + " " + what, due[place + 1][what], x.surely(place, what));
            }
        }
        for (int what = 0; what < 3; what++) {
            Check.due("surely 2 " + what, Check.NONE, x.surely(2, what));
            Check.due("surely -1 " + what, Check.NONE, x.surely(-1, what));
        }
        Check.due("what 3", Check.BEYOND, x.surely(2, 3));
        Check.due("what -1", Check.BEYOND, x.surely(0, -1));
        Check.due("place 3", Check.BEYOND, x.surely(3, 0));
        Check.due("place -2", Check.BEYOND, x.surely(-2, 0));
        CupsAndPea y = Check.with(3, PASS, 0, 1, PASS, 1, 2, LIFT, 2, 0);
        // {}: hand; {0}: pea 0 comes to 2; {1}: 1; {0, 1}: 2; {2}: 2; {0, 2}: 0; {1, 2}: 1; all: 0.
        int[][] then = {{0, 0, 0}, {5, 5, 7}, {2, 2, 6}, {1, 0, 7}};
        for (int place = -1; place < 3; place++) {
            for (int what = 0; what < 3; what++) {
                Check.due("surely then " + place + " " + what, then[place + 1][what], y.surely(place, what));
            }
        }
        CupsAndPea many = new CupsAndPea();
        for (int i = 0; i < 14; i++) {
            many.pass(SLOW, 1, 2);
        }
        Check.due("any of the first ten", 1023, many.surely(0, 2));
        many.change(9, PASS);
        many.pea(1);
        Check.due("one of ten is a feint", 1, many.surely(2, 0));
        Check.due("none of ten is one", 0, many.surely(1, 0));
    }

    private static void rings() {
        Check.due("of none", 0, new CupsAndPea().rings());
        CupsAndPea x = Check.with(6, PASS, 0, 1, FEINT, 1, 5, LIFT, 3, 1);
        Check.due("of three", 1 + 3 * 15 + 15 * 15 * 15 + 15 * 15 * 15 * 15 * 15, x.rings());
        CupsAndPea y = Check.with(4, WHIRL, 1, 3);
        Check.due("of a whirl: 1 and 0", 16, y.rings());
        y.back();
        Check.due("of none again", 0, y.rings());
        CupsAndPea all = Check.with(6);
        for (int i = 0; i < 14; i++) {
            all.pass(PASS, 5, 4);
        }
        Check.due("of all", 14 * (50625 + 759375), all.rings());
    }

    private static void orders() {
        CupsAndPea x = Check.with(3, PASS, 0, 1, PASS, 1, 2);
        // 0 1 2 brings it to 2; the other order to 1.
        int[] due = {0, 0, 1, 1};
        for (int place = -1; place < 3; place++) {
            Check.due("orders " + place, due[place + 1], x.orders(place));
        }
        x.change(0, LIFT);
        Check.due("lifted either way", 2, x.orders(-1));
        x.change(1, DROP);
        // Lift, drop: at 2. Drop, lift: in the hand.
        Check.due("dropped", 1, x.orders(2));
        Check.due("not dropped", 1, x.orders(-1));
        Check.due("orders 3", Check.BEYOND, x.orders(3));
        Check.due("orders -2", Check.BEYOND, x.orders(-2));
        CupsAndPea none = new CupsAndPea();
        Check.due("of none", 1, none.orders(0));
        Check.due("of none elsewhere", 0, none.orders(1));
        none.pea(-1);
        Check.due("of none in the hand", 1, none.orders(-1));
        none.pea(0);
        Check.due("not in the hand any more", 0, none.orders(-1));
        CupsAndPea same = Check.with(6, SLOW, 4, 5, SLOW, 4, 5, SLOW, 4, 5, SLOW, 4, 5, SLOW, 4, 5, SLOW, 4, 5, SLOW, 4, 5);
        same.pea(4);
        Check.due("of seven alike", 5040, same.orders(5));
        Check.due("again", 5040, same.orders(5));
        same.pass(FEINT, 0, 1);
        Check.due("of eight", Check.SIZE, same.orders(5));
        Check.due("beyond is asked first", Check.BEYOND, same.orders(6));
    }
}

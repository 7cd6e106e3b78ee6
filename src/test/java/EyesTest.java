/** Promises 11 to 17: eyes and what they think. */
final class EyesTest implements Kinds {
    public static void main(String[] args) {
        eye();
        weightOfKinds();
        weightBehindTheLast();
        weightBehindMany();
        weightBeyond();
        guess();
        right();
        lost();
        both();
        may();
        Check.end();
    }

    private static void eye() {
        CupsAndPea x = new CupsAndPea();
        for (int i = 0; i < 4; i++) {
            Check.due("slip", 2, x.eye(i, 0, 10 - i));
            Check.due("begin", 0, x.eye(i, 1, i % 3));
        }
        for (int i = 0; i < 4; i++) {
            Check.due("slip then", 10 - i, x.eye(i, 0, 0));
            Check.due("begin then", i % 3, x.eye(i, 1, 0));
        }
        int[][] beyond = {{-1, 0, 1}, {4, 0, 1}, {0, -1, 1}, {0, 2, 1}, {0, 0, -1}, {0, 0, 11}, {0, 1, -1}, {0, 1, 3}};
        for (int[] e : beyond) {
            Check.due("such an eye", Check.BEYOND, x.eye(e[0], e[1], e[2]));
        }
        x.cups(5);
        Check.due("as many places as cups", 0, x.eye(0, 1, 4));
        Check.due("and no more", Check.BEYOND, x.eye(0, 1, 5));
        Check.due("nothing changed", 4, x.eye(0, 1, 0));
    }

    private static void weights(String what, CupsAndPea x, int eye, int k, long... due) {
        for (int place = 0; place < due.length; place++) {
            Check.due(what + " at " + place, due[place], x.weight(eye, k, place));
        }
    }

    private static void weightOfKinds() {
        // Of 0 and 1 as it looks; the place behind 1 is 2.
        int[] plain = {PASS, FEINT, LIFT, DROP};
        for (int kind : plain) {
            CupsAndPea x = Check.with(4, kind, 0, 1);
            x.eye(0, 0, 3);
            weights("kind " + kind, x, 0, 0, 1, 0, 0, 0);
            weights("kind " + kind, x, 0, 1, 0, 7, 3, 0);
        }
        CupsAndPea whirl = Check.with(4, WHIRL, 0, 1);
        whirl.eye(0, 0, 3);
        weights("whirl looks like 0 and 2", whirl, 0, 1, 0, 0, 7, 3);
        CupsAndPea slow = Check.with(4, SLOW, 0, 1);
        slow.eye(0, 0, 10);
        weights("slow", slow, 0, 1, 0, 10, 0, 0);
        CupsAndPea quick = Check.with(4, QUICK, 0, 1);
        quick.eye(0, 0, 3);
        weights("quick", quick, 0, 1, 0, 4, 6, 0);
        quick.eye(0, 0, 5);
        weights("quick, all", quick, 0, 1, 0, 0, 10, 0);
        quick.eye(0, 0, 6);
        weights("quick, and no more", quick, 0, 1, 0, 0, 10, 0);
        quick.eye(0, 1, 1);
        weights("from b", quick, 0, 1, 0, 10, 0, 0);
        quick.eye(0, 1, 2);
        weights("from behind b", quick, 0, 1, 10, 0, 0, 0);
        quick.eye(0, 1, 3);
        weights("from elsewhere", quick, 0, 1, 0, 0, 0, 10);
        quick.eye(0, 0, 1);
        quick.eye(0, 1, 2);
        weights("from behind b, often not", quick, 0, 1, 2, 0, 8, 0);
        quick.eye(0, 1, 1);
        weights("from b, often not", quick, 0, 1, 8, 2, 0, 0);
    }

    private static void weightBehindTheLast() {
        CupsAndPea last = Check.with(4, PASS, 1, 3);
        last.eye(2, 1, 1);
        weights("behind the last is 0", last, 2, 1, 2, 0, 0, 8);
        CupsAndPea first = Check.with(4, PASS, 0, 3);
        weights("behind the last is a, then 1", first, 0, 1, 0, 2, 0, 8);
        CupsAndPea down = Check.with(4, PASS, 2, 1);
        down.eye(0, 1, 2);
        weights("behind b is a, then the next", down, 0, 1, 0, 8, 0, 2);
        CupsAndPea wrap = Check.with(3, PASS, 2, 1);
        wrap.eye(0, 1, 2);
        weights("behind b is a, which is the last", wrap, 0, 1, 2, 8, 0);
        CupsAndPea whirl = Check.with(3, WHIRL, 0, 1);
        weights("a whirl of three", whirl, 0, 1, 0, 2, 8);
    }

    private static void weightBehindMany() {
        // 1 at 0; pass of 0, 1: 8 at 1, 2 at 2; pass of 1, 2: 64 at 2 + 16 at 0, 16 at 1 + 4 at 2.
        CupsAndPea x = Check.with(3, PASS, 0, 1, PASS, 1, 2);
        weights("behind one", x, 3, 1, 0, 8, 2);
        weights("behind two", x, 3, 2, 16, 16, 68);
        CupsAndPea all = new CupsAndPea();
        all.cups(6);
        all.seed(5);
        all.shuffle(12);
        all.pass(QUICK, 4, 5);
        all.pass(PASS, 5, 2);
        long ten = 1;
        for (int k = 0; k <= 14; k++) {
            long sum = 0;
            for (int place = 0; place < 6; place++) {
                sum += all.weight(1, k, place);
            }
            Check.due("in all behind " + k, ten, sum);
            ten *= 10;
        }
    }

    private static void weightBeyond() {
        CupsAndPea x = Check.with(3, PASS, 0, 1);
        int[][] beyond = {{-1, 0, 0}, {4, 0, 0}, {0, -1, 0}, {0, 2, 0}, {0, 0, -1}, {0, 0, 3}};
        for (int[] w : beyond) {
            Check.due("such a weight", Check.BEYOND, x.weight(w[0], w[1], w[2]));
        }
        Check.due("each counts", 6, x.status(0));
    }

    private static void guess() {
        CupsAndPea x = Check.with(3, PASS, 0, 1);
        Check.due("most at 1", 1, x.guess(0));
        x.eye(0, 0, 6);
        Check.due("most at 2", 2, x.guess(0));
        x.eye(0, 0, 5);
        Check.due("as much at both", 1, x.guess(0));
        x.pass(PASS, 1, 2);
        Check.due("behind all", 2, x.guess(1));
        Check.due("guess of 4", Check.BEYOND, x.guess(4));
        Check.due("guess of -1", Check.BEYOND, x.guess(-1));
        CupsAndPea y = new CupsAndPea();
        y.cups(6);
        y.eye(3, 1, 5);
        Check.due("guess of no passes", 5, y.guess(3));
        y.pass(SLOW, 5, 4);
        y.pass(PASS, 4, 5);
        y.guess(3);
        y.back();
        y.back();
        y.cups(3);
        y.pass(PASS, 0, 1);
        y.pass(PASS, 0, 1);
        Check.due("of places that are there", 0, y.guess(3));
        Check.due("and may be there", 7, y.may(3));
    }

    private static void right() {
        CupsAndPea x = Check.with(3, PASS, 0, 1, PASS, 1, 2);
        Check.due("pea at 2", 68, x.right(0));
        x.change(1, FEINT);
        Check.due("pea at 1", 16, x.right(0));
        x.change(0, LIFT);
        Check.due("pea in the hand", 0, x.right(0));
        Check.due("right of 4", Check.BEYOND, x.right(4));
        Check.due("right of -1", Check.BEYOND, x.right(-1));
        CupsAndPea y = Check.with(3, SLOW, 0, 1, SLOW, 0, 1, SLOW, 0, 1, SLOW, 0, 1, SLOW, 0, 1, SLOW, 0, 1, SLOW, 0, 1, SLOW, 0, 1,
            SLOW, 0, 1, SLOW, 0, 1, SLOW, 0, 1, SLOW, 0, 1, SLOW, 0, 1, SLOW, 0, 1);
        Check.due("all of it", 100000000000000L, y.right(0));
    }

    private static void lost() {
        CupsAndPea x = Check.with(3, PASS, 0, 1, PASS, 1, 2, FEINT, 2, 0, SLOW, 0, 2);
        Check.due("at the feint", 3, x.lost(0));
        x.change(2, PASS);
        Check.due("never", Check.NONE, x.lost(0));
        Check.due("told", 1, x.status(3));
        x.eye(0, 0, 10);
        Check.due("at once", 1, x.lost(0));
        x.eye(0, 1, 1);
        Check.due("before", 0, x.lost(0));
        x.change(0, LIFT);
        Check.due("into the hand", 1, x.lost(1));
        x.pea(-1);
        Check.due("in the hand", 0, x.lost(1));
        Check.due("lost of 4", Check.BEYOND, x.lost(4));
        Check.due("lost of -1", Check.BEYOND, x.lost(-1));
        CupsAndPea late = Check.with(3, SLOW, 0, 1, FEINT, 1, 2);
        Check.due("at the last one", 2, late.lost(0));
        // Lost at first, though right in the end.
        CupsAndPea y = Check.with(3, FEINT, 0, 1, FEINT, 0, 1);
        y.eye(0, 0, 0);
        Check.due("right again", 0, y.guess(0));
        Check.due("first lost", 1, y.lost(0));
    }

    private static void both() {
        CupsAndPea none = new CupsAndPea();
        none.eye(2, 1, 2);
        Check.due("without passes", 0, none.both(0, 3));
        Check.due("without passes, elsewhere", Check.NONE, none.both(0, 2));
        CupsAndPea x = Check.with(3, PASS, 0, 1, PASS, 1, 2);
        // Eye 0: 16, 16, 68. Eye 1 (slip 1, from 2): 9, 82, 9.
        x.eye(1, 0, 1);
        x.eye(1, 1, 2);
        Check.due("alone", 2, x.guess(0));
        Check.due("alone", 1, x.guess(1));
        Check.due("together", 1, x.both(0, 1));
        Check.due("the other way round", 1, x.both(1, 0));
        x.eye(1, 0, 2);
        // Eye 1 then: 16, 68, 16.
        Check.due("as much at 1 as at 2", 1, x.both(0, 1));
        x.eye(1, 0, 5);
        // Eye 1 then: 25, 50, 25.
        Check.due("where eye 0 is surer", 2, x.both(0, 1));
        x.eye(1, 0, 1);
        Check.due("one and the same", Check.BEYOND, x.both(1, 1));
        Check.due("both of 4", Check.BEYOND, x.both(4, 1));
        Check.due("both with 4", Check.BEYOND, x.both(1, 4));
        Check.due("both of -1", Check.BEYOND, x.both(-1, 1));
        Check.due("both with -1", Check.BEYOND, x.both(1, -1));
        x.eye(2, 0, 0);
        x.eye(2, 1, 1);
        x.eye(3, 0, 0);
        // Eye 2 (slip 0) from 1: at 0. Eye 3 (slip 0) from 0: at 2.
        Check.due("nothing together", Check.NONE, x.both(2, 3));
        Check.due("something with eye 0", 0, x.both(0, 2));
        for (int i = 2; i < 9; i++) {
            x.pass(SLOW, 0, 1);
        }
        Check.due("nine passes", 0, x.both(0, 1));
        Check.due("nothing of nine", Check.NONE, x.both(2, 3));
        x.pass(SLOW, 0, 1);
        Check.due("ten passes", Check.SIZE, x.both(2, 3));
        Check.due("beyond is asked first", Check.BEYOND, x.both(2, 2));
        CupsAndPea tie = Check.with(3, PASS, 0, 1);
        tie.eye(0, 0, 5);
        tie.eye(1, 0, 5);
        Check.due("as much at 1 as at 2", 1, tie.both(0, 1));
    }

    private static void may() {
        CupsAndPea x = Check.with(4, PASS, 0, 1);
        Check.due("both places", 6, x.may(0));
        x.eye(0, 0, 0);
        Check.due("one place", 2, x.may(0));
        x.eye(0, 0, 10);
        Check.due("the other", 4, x.may(0));
        x.pass(DROP, 2, 3);
        Check.due("three of two", 8 + 2 + 1, x.may(1));
        Check.due("may of 4", Check.BEYOND, x.may(4));
        Check.due("may of -1", Check.BEYOND, x.may(-1));
        CupsAndPea y = new CupsAndPea();
        y.cups(6);
        y.eye(3, 1, 5);
        Check.due("no passes", 32, y.may(3));
    }
}

/** Promises 18 to 22 where the document names an edge: no passes, one, fourteen; as good ones; rows up to the 14th. */
final class MisleadEdgesTest implements Kinds {
    private static final long ALL = 100000000000000L;

    public static void main(String[] args) {
        watchFew();
        watchFourteen();
        feintFew();
        feintFourteen();
        kinds();
        kindsInTheHand();
        kindOfTheLast();
        toTheFourteenth();
        behindPasses();
        firstRows();
        oneIsNotNone();
        rowsOfSix();
        Check.end();
    }

    /** Fourteen slow passes of a and b: nobody slips at them. */
    private static CupsAndPea slow(int a, int b) {
        CupsAndPea x = new CupsAndPea();
        for (int i = 0; i < 14; i++) {
            x.pass(SLOW, a, b);
        }
        return x;
    }

    private static void watchFew() {
        CupsAndPea x = new CupsAndPea();
        Check.due("none", Check.NONE, x.watch(0));
        x.pass(PASS, 0, 1);
        for (int eye = 0; eye < 4; eye++) {
            Check.due("the only one", 0, x.watch(eye));
        }
        x.back();
        Check.due("none again", Check.NONE, x.watch(3));
        // Nobody slips from 1 at the first pass, nor at the slow one: all of it is right, whichever is watched.
        CupsAndPea all = Check.with(4, PASS, 0, 2, SLOW, 0, 1);
        all.pea(1);
        all.eye(2, 1, 1);
        Check.due("all right at both", 0, all.watch(2));
        // The pea stays at 3, where nobody thinks that it is.
        CupsAndPea nothing = Check.with(4, SLOW, 0, 1, PASS, 0, 1);
        nothing.pea(3);
        Check.due("nothing right at both", 0, nothing.watch(2));
    }

    private static void watchFourteen() {
        CupsAndPea x = slow(0, 1);
        x.eye(1, 0, 0);
        Check.due("all as good", 0, x.watch(0));
        for (int i = 0; i < 14; i++) {
            x.change(i, PASS);
            Check.due("the one that isn't slow", i, x.watch(0));
            Check.due("who never slips needs none", 0, x.watch(1));
            x.change(i, SLOW);
        }
        x.change(4, QUICK);
        x.change(9, QUICK);
        // Watching either one leaves the other.
        Check.due("of two as good the first", 4, x.watch(0));
        x.change(2, PASS);
        Check.due("the quick one, not the first", 4, x.watch(0));
        x.pea(-1);
        Check.due("in the hand all are as good", 0, x.watch(0));
    }

    private static void feintFew() {
        CupsAndPea x = new CupsAndPea();
        Check.due("none", Check.NONE, x.feint(0));
        x.pass(FEINT, 0, 1);
        Check.due("the only one, which is one", 0, x.feint(0));
        x.change(0, PASS);
        Check.due("the only one", 0, x.feint(3));
        x.back();
        Check.due("none again", Check.NONE, x.feint(0));
    }

    private static void feintFourteen() {
        CupsAndPea x = slow(1, 2);
        // As a feint each of them lets an eye slip once.
        Check.due("all as good", 0, x.feint(0));
        for (int at = 0; at < 14; at++) {
            CupsAndPea y = new CupsAndPea();
            for (int i = 0; i < 14; i++) {
                y.pass(SLOW, i == at ? 0 : 1, 2);
            }
            // Only that one moves the pea: as a feint it leaves it at 0, where nobody thinks that it is.
            Check.due("the one that moves it, " + at, at, y.feint(0));
            Check.due("it is as it was", SLOW, y.of(at, 0));
        }
        CupsAndPea feints = new CupsAndPea();
        for (int i = 0; i < 14; i++) {
            feints.pass(FEINT, 0, 1);
        }
        Check.due("all are feints", 0, feints.feint(0));
    }

    private static void kind(String what, int due, CupsAndPea x, int pass, long... rights) {
        int was = x.of(pass, 0);
        for (int kind = 0; kind < rights.length; kind++) {
            x.change(pass, kind);
            Check.due(what + ": right as " + kind, rights[kind], x.right(0));
        }
        x.change(pass, was);
        Check.due(what, due, x.kindFor(0, pass));
        Check.due(what + ": it is as it was", was, x.of(pass, 0));
    }

    /** Each kind is the best one somewhere; of as good ones it is the least. */
    private static void kinds() {
        CupsAndPea x = Check.with(3, QUICK, 0, 1);
        kind("a feint", FEINT, x, 0, 8, 0, 0, 8, 2, 10, 6);
        x.pea(1);
        kind("of as good ones the least", PASS, x, 0, 0, 8, 0, 0, 8, 0, 0);
        x.eye(0, 1, 1);
        kind("a whirl", WHIRL, x, 0, 8, 2, 8, 8, 0, 10, 6);
    }

    /** The pea in the hand is dropped by the second pass, at 2. */
    private static void kindsInTheHand() {
        CupsAndPea x = Check.with(3, PASS, 1, 2, DROP, 0, 2);
        x.pea(-1);
        x.eye(0, 0, 1);
        // As a drop the first one brings it to 2, and the second one to 0.
        kind("a drop", DROP, x, 0, 81, 81, 81, 1, 9, 90, 72);
        CupsAndPea y = Check.with(3, PASS, 0, 1, DROP, 0, 2);
        y.pea(-1);
        y.eye(0, 0, 1);
        // Only who slips at the first one thinks of 2.
        kind("a slow one", SLOW, y, 0, 1, 1, 1, 81, 9, 0, 2);
        CupsAndPea z = Check.with(3, WHIRL, 0, 1);
        z.pea(-1);
        kind("in the hand, or dropped where it thinks", PASS, z, 0, 0, 0, 0, 8, 0, 0, 0);
    }

    private static void kindOfTheLast() {
        CupsAndPea x = slow(0, 1);
        x.eye(0, 0, 0);
        // Thirteen bring it to 1; a feint leaves it there, and who never slips doesn't think so.
        Check.due("the 14th", FEINT, x.kindFor(0, 13));
        Check.due("a 15th", Check.BEYOND, x.kindFor(0, 14));
        x.change(13, LIFT);
        Check.due("as it would be, not as it is", FEINT, x.kindFor(0, 13));
        x.back();
        Check.due("the 13th", FEINT, x.kindFor(0, 12));
        Check.due("the 14th isn't there", Check.BEYOND, x.kindFor(0, 13));
    }

    /** Rows of slow passes leave all; as many as there are places to the 14th. */
    private static void toTheFourteenth() {
        for (int n = 1; n <= 4; n++) {
            CupsAndPea x = slow(0, 1);
            Check.due("one too many of " + n, Check.FULL, x.misled(0, n, SLOW));
            Check.due("one too many of " + n, Check.FULL, x.row(0, n, SLOW, n - 1));
            for (int i = 0; i < n; i++) {
                Check.due("one too many still", Check.FULL, x.misled(0, n, SLOW));
                Check.due("one too many still", Check.FULL, x.row(0, n, SLOW, 0));
                x.back();
            }
            Check.due("to the 14th by " + n, ALL, x.misled(0, n, SLOW));
            Check.due("to the 14th by " + n, 1, x.row(0, n, SLOW, n - 1));
            Check.due("i is n", Check.BEYOND, x.row(0, n, SLOW, n));
            Check.due("none has come", 14 - n, x.now(2));
        }
        long ten = 10;
        for (int n = 1; n <= 4; n++) {
            Check.due("behind none, " + n, ten, new CupsAndPea().misled(0, n, SLOW));
            ten *= 10;
        }
    }

    private static void behindPasses() {
        CupsAndPea x = Check.with(3, SLOW, 0, 1);
        // The pea and all that an eye thinks are at 1; it slips by 2 wherever the pea comes.
        Check.due("by one pass", 80, x.misled(0, 1, PASS));
        Check.due("of as good ones the first", 1, x.row(0, 1, PASS, 0));
        CupsAndPea hand = Check.with(3, LIFT, 0, 1);
        for (int n = 1; n <= 4; n++) {
            Check.due("in the hand", 0, hand.misled(0, n, PASS));
            for (int i = 0; i < n; i++) {
                Check.due("in the hand, the first row", 1, hand.row(0, n, PASS, i));
            }
        }
        // 8 at 1 and 2 at 2. Dropped at 1 by 0, 1: 16 stay there. At 2 by 0, 2: 4 stay. At 2 by 1, 2: 64 come, 4 stay.
        Check.due("dropped", 4, hand.misled(0, 1, DROP));
        Check.due("dropped at 2", 2, hand.row(0, 1, DROP, 0));
    }

    private static void firstRows() {
        CupsAndPea x = new CupsAndPea();
        x.cups(6);
        for (int place = 0; place < 5; place++) {
            x.pea(place);
            for (int eye = 0; eye < 4; eye++) {
                x.eye(eye, 1, place);
                x.eye(eye, 0, 0);
            }
            // Only a lift of that place takes it: with the next one, or 0 with 1, as these come first.
            Check.due("a lift from " + place, 0, x.misled(2, 1, LIFT));
            Check.due("a lift from " + place, 11 * place + 1, x.row(2, 1, LIFT, 0));
            // A feint is seen as a pass; the first of that place is with 0, but for 0 with 1.
            Check.due("a feint at " + place, 0, x.misled(2, 1, FEINT));
            Check.due("a feint at " + place, place == 0 ? 1 : place, x.row(2, 1, FEINT, 0));
        }
        // No pass has the fifth place first, so nothing lifts it at once.
        x.pea(5);
        x.eye(2, 1, 5);
        Check.due("no lift from 5", 10, x.misled(2, 1, LIFT));
        Check.due("so the first one", 1, x.row(2, 1, LIFT, 0));
        // But a second one does, behind a first that brings it to 0.
        Check.due("two lifts", 0, x.misled(2, 2, LIFT));
        Check.due("two lifts, the first", 5, x.row(2, 2, LIFT, 0));
        Check.due("two lifts, the second", 1, x.row(2, 2, LIFT, 1));
    }

    /** A row that leaves one is not the end of the search: another one leaves none. */
    private static void oneIsNotNone() {
        CupsAndPea x = new CupsAndPea();
        x.pea(1);
        x.eye(0, 1, 1);
        x.eye(0, 0, 9);
        // 0, 1 moves it, which it sees by 1; at 0, 2 it stays, but the eye slips by 9 to the place of it.
        for (int b = 1; b <= 2; b++) {
            x.pass(LIFT, 0, b);
            Check.due("a lift of 0 and " + b, 1, x.right(0));
            x.back();
        }
        Check.due("a lift from it", 0, x.misled(0, 1, LIFT));
        Check.due("a lift from it", 12, x.row(0, 1, LIFT, 0));
    }

    private static void rowsOfSix() {
        CupsAndPea x = new CupsAndPea();
        x.cups(6);
        x.pea(4);
        x.eye(1, 1, 4);
        x.eye(1, 0, 0);
        // Three aside, then the last pass that there is.
        int[] due = {1, 1, 1, 45};
        for (int n = 1; n <= 4; n++) {
            for (int i = 0; i < n; i++) {
                Check.due("row of " + n + " at " + i, due[4 - n + i], x.row(1, n, LIFT, i));
            }
            Check.due("takes it", 0, x.misled(1, n, LIFT));
        }
    }
}

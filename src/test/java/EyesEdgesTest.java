/** Promises 11 to 17 where the document names an edge: each slip, each place behind another, none to fourteen passes. */
final class EyesEdgesTest implements Kinds {
    private static final long ALL = 100000000000000L;

    public static void main(String[] args) {
        for (int cups = 3; cups <= 6; cups++) {
            for (int kind = 0; kind < 7; kind++) {
                for (int slip = 0; slip <= 10; slip++) {
                    onePass(cups, kind, slip);
                }
            }
        }
        behindNone();
        behindFourteen();
        fewerCups();
        ties();
        rightOrNot();
        lost();
        both();
        bothOfNine();
        may();
        Check.end();
    }

    private static int swapped(int x, int y, int at) {
        return at == x ? y : at == y ? x : at;
    }

    /** Ten in all behind one pass: so many as it looks, so many with the place behind y, from each place. */
    private static void onePass(int cups, int kind, int slip) {
        int s = kind == SLOW ? 0 : kind != QUICK ? slip : slip > 5 ? 10 : slip + slip;
        for (int a = 0; a < cups; a++) {
            for (int b = 0; b < cups; b++) {
                if (a == b) {
                    continue;
                }
                CupsAndPea x = Check.with(cups, kind, a, b);
                x.eye(2, 0, slip);
                int y = x.of(0, 3);
                int behind = y == cups - 1 ? 0 : y + 1;
                if (behind == a) {
                    behind = a == cups - 1 ? 0 : a + 1;
                }
                for (int at = 0; at < cups; at++) {
                    x.eye(2, 1, at);
                    for (int place = 0; place < cups; place++) {
                        int due = (swapped(a, y, at) == place ? 10 - s : 0) + (swapped(a, behind, at) == place ? s : 0);
                        Check.due("kind " + kind + " of " + a + ", " + b + ", cups " + cups + ", slip " + slip + ", from " + at
                            + ", at " + place, due, x.weight(2, 1, place));
                    }
                }
            }
        }
    }

    private static void behindNone() {
        CupsAndPea x = Check.with(6);
        for (int at = 0; at < 6; at++) {
            x.eye(1, 1, at);
            x.pea(at);
            for (int place = 0; place < 6; place++) {
                Check.due("weight of " + at + " at " + place, at == place ? 1 : 0, x.weight(1, 0, place));
            }
            Check.due("guess", at, x.guess(1));
            Check.due("right", 1, x.right(1));
            Check.due("right of another", at == 0 ? 1 : 0, x.right(0));
            Check.due("may", 1 << at, x.may(1));
            Check.due("never lost", Check.NONE, x.lost(1));
            Check.due("another one", at == 0 ? Check.NONE : 0, x.lost(0));
            Check.due("both", at == 0 ? 0 : Check.NONE, x.both(0, 1));
            x.eye(3, 1, at);
            Check.due("both there", at, x.both(1, 3));
        }
        Check.due("behind one", Check.BEYOND, x.weight(1, 1, 0));
        x.pea(-1);
        Check.due("in the hand", 0, x.right(0));
        Check.due("lost in the hand", 0, x.lost(0));
    }

    private static CupsAndPea fourteen(int kind, int a, int b) {
        CupsAndPea x = new CupsAndPea();
        for (int i = 0; i < 14; i++) {
            x.pass(kind, a, b);
        }
        return x;
    }

    private static void behindFourteen() {
        CupsAndPea x = fourteen(PASS, 0, 1);
        x.eye(0, 0, 0);
        x.eye(1, 0, 10);
        Check.due("who never slips", ALL, x.weight(0, 14, 0));
        Check.due("is right", ALL, x.right(0));
        Check.due("and guesses so", 0, x.guess(0));
        Check.due("one place", 1, x.may(0));
        // As passes of 0 and 2: 0 to 2 and back.
        Check.due("who always slips", ALL, x.weight(1, 14, 0));
        Check.due("behind thirteen", ALL / 10, x.weight(1, 13, 2));
        Check.due("behind fifteen", Check.BEYOND, x.weight(1, 15, 0));
        // An eye slips by 2 at each: what it has at all places is ten times as much each time.
        long ten = 1;
        for (int k = 0; k <= 14; k++) {
            Check.due("in all behind " + k, ten, x.weight(2, k, 0) + x.weight(2, k, 1) + x.weight(2, k, 2));
            ten *= 10;
        }
        // The 14th of what is 8 to the power 14: all seen as it looked; each other way adds to it.
        Check.due("more than int", 1, x.weight(2, 14, 0) > 4398046511104L ? 1 : 0);
    }

    /** What was thought of places that aren't there any more is not thought of. */
    private static void fewerCups() {
        for (int from = 4; from <= 6; from++) {
            for (int place = 3; place < from; place++) {
                CupsAndPea x = Check.with(from, SLOW, 0, 1, SLOW, 0, 1, SLOW, 0, 1);
                x.eye(0, 1, place);
                x.eye(1, 1, place);
                Check.due("guess " + place, place, x.guess(0));
                Check.due("both " + place, place, x.both(0, 1));
                while (x.now(2) > 0) {
                    x.back();
                }
                x.cups(3);
                Check.due("none: it thinks of 0", 0, x.guess(0));
                Check.due("none: may", 1, x.may(0));
                x.pass(PASS, 0, 1);
                x.pass(PASS, 0, 1);
                // 8 at 1 and 2 at 2; then 64 at 0, and of 2 4 at 0 as well: more than 16 at 1 and 16 at 2.
                Check.due("two: guess", 0, x.guess(0));
                Check.due("two: both", 0, x.both(0, 1));
                Check.due("two: may", 7, x.may(0));
                Check.due("two: at 0", 68, x.weight(0, 2, 0));
                Check.due("three places", Check.BEYOND, x.weight(0, 2, 3));
            }
        }
    }

    /** As much at several places: the least counts. */
    private static void ties() {
        CupsAndPea x = Check.with(6, PASS, 4, 3);
        x.eye(0, 0, 5);
        x.eye(0, 1, 4);
        // Behind 3 is 4, so it is 5: 5 at 3 and at 5.
        Check.due("at 3 and at 5", 3, x.guess(0));
        x.eye(0, 0, 6);
        Check.due("more at 5", 5, x.guess(0));
        x.eye(0, 0, 4);
        Check.due("more at 3", 3, x.guess(0));
        x.eye(0, 0, 5);
        x.pass(PASS, 3, 0);
        // 3 to 0 and to 1, of 5 each; what is at 5 stays: 25, 25, 50.
        Check.due("most at the last", 5, x.guess(0));
        x.pass(PASS, 5, 2);
        // Behind 2 is 3: 5 to 2 and to 3; 0 and 1 stay: 250 each.
        for (int place = 0; place < 4; place++) {
            Check.due("at " + place, 250, x.weight(0, 3, place));
        }
        Check.due("of four the first", 0, x.guess(0));
        Check.due("all of them", 15, x.may(0));
    }

    private static void rightOrNot() {
        CupsAndPea x = Check.with(3, PASS, 0, 1);
        // 8 at 1, 2 at 2.
        int[] due = {0, 8, 0, 2};
        int[] begins = {-1, 0, 1, 2};
        for (int i = 0; i < 4; i++) {
            x.pea(begins[i]);
            Check.due("right, pea from " + begins[i], due[i], x.right(0));
        }
        x.pea(-1);
        x.change(0, DROP);
        Check.due("dropped where it thinks", 8, x.right(0));
        x.change(0, LIFT);
        x.pea(0);
        Check.due("lifted", 0, x.right(0));
        CupsAndPea all = fourteen(SLOW, 0, 1);
        Check.due("of fourteen", ALL, all.right(3));
        all.pea(2);
        Check.due("of fourteen, elsewhere", 0, all.right(3));
        all.pea(-1);
        Check.due("of fourteen, in the hand", 0, all.right(3));
    }

    private static void lost() {
        CupsAndPea x = fourteen(SLOW, 0, 1);
        Check.due("never, of fourteen", Check.NONE, x.lost(0));
        x.change(13, FEINT);
        Check.due("at the last", 14, x.lost(0));
        for (int i = 12; i >= 0; i--) {
            x.change(i, FEINT);
            Check.due("at an earlier one", i + 1, x.lost(0));
        }
        x.eye(0, 1, 2);
        Check.due("before all", 0, x.lost(0));
        CupsAndPea one = Check.with(3, SLOW, 0, 1);
        Check.due("never, of one", Check.NONE, one.lost(0));
        one.change(0, LIFT);
        Check.due("into the hand", 1, one.lost(0));
        one.pea(1);
        Check.due("before", 0, one.lost(0));
    }

    private static void both() {
        CupsAndPea x = Check.with(3, PASS, 0, 1);
        x.eye(0, 0, 5);
        x.eye(1, 0, 5);
        Check.due("as much at two places", 1, x.both(0, 1));
        x.eye(1, 0, 6);
        Check.due("more at 2", 2, x.both(0, 1));
        x.eye(0, 0, 0);
        x.eye(1, 0, 9);
        // 10 at 1 alone; 1 at 1 and 9 at 2.
        Check.due("only where both have weight", 1, x.both(1, 0));
        x.eye(1, 0, 10);
        Check.due("nowhere", Check.NONE, x.both(1, 0));
        Check.due("nowhere, the other way round", Check.NONE, x.both(0, 1));
    }

    /** At nine passes a product may be 10 to the power 18; at ten it isn't asked. */
    private static void bothOfNine() {
        CupsAndPea x = new CupsAndPea();
        for (int i = 0; i < 9; i++) {
            x.pass(SLOW, 0, 1);
        }
        x.eye(3, 1, 2);
        Check.due("all of both", 1, x.both(0, 1));
        Check.due("nothing of both", Check.NONE, x.both(0, 3));
        // 8 of ten at 1 and 2 at 2: 64 and 4 times 10 to the power 16, beyond all ints.
        x.change(8, PASS);
        Check.due("most of both", 1, x.both(0, 1));
        x.eye(0, 0, 10);
        x.eye(1, 0, 9);
        Check.due("most of both that slip", 2, x.both(0, 1));
        x.pass(SLOW, 0, 1);
        Check.due("ten", Check.SIZE, x.both(0, 1));
        x.back();
        Check.due("nine again", 2, x.both(0, 1));
        x.back();
        Check.due("eight", 0, x.both(0, 1));
    }

    private static void may() {
        CupsAndPea x = Check.with(6, PASS, 0, 1);
        int[][] passes = {{2, 3}, {3, 4}, {1, 0}, {0, 1}};
        // 1, 2; 1, 3, 4; 1, 3, 4, 5; 0, 2, 3, 4, 5; all.
        int[] due = {6, 26, 58, 61, 63};
        Check.due("may behind one", due[0], x.may(0));
        for (int i = 0; i < 4; i++) {
            x.pass(PASS, passes[i][0], passes[i][1]);
            Check.due("may behind " + (i + 2), due[i + 1], x.may(0));
        }
        x.eye(0, 0, 0);
        Check.due("who never slips", 2, x.may(0));
    }
}

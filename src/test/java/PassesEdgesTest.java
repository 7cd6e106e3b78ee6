/** Promises 1 to 10 where the document names an edge: each kind at each place, none, one and fourteen passes. */
final class PassesEdgesTest implements Kinds {
    private static final int HAND = -1;

    public static void main(String[] args) {
        placesThatAreNotThere();
        cupsThatAreChanged();
        thirdPlaces();
        for (int cups = 3; cups <= 6; cups++) {
            for (int kind = 0; kind < 7; kind++) {
                onePass(cups, kind);
            }
        }
        underThePea();
        noPasses();
        fourteenPasses();
        upAndDown();
        changes();
        movesOfTheHand();
        Check.end();
    }

    /** From each number of cups to each other one: what is at a place that isn't there any more is at 0. */
    private static void placesThatAreNotThere() {
        for (int from = 3; from <= 6; from++) {
            for (int to = 3; to <= 6; to++) {
                for (int place = 0; place < from; place++) {
                    CupsAndPea x = Check.with(from);
                    x.pea(place);
                    for (int eye = 0; eye < 4; eye++) {
                        x.eye(eye, 1, (place + eye) % from);
                    }
                    Check.due("cups " + to, from, x.cups(to));
                    Check.due("pea at " + place + " of " + to, place < to ? place : 0, x.now(3));
                    for (int eye = 0; eye < 4; eye++) {
                        int then = (place + eye) % from;
                        Check.due("eye " + eye + " at " + then + " of " + to, then < to ? then : 0, x.eye(eye, 1, 0));
                    }
                }
                CupsAndPea hand = Check.with(from);
                hand.pea(HAND);
                hand.cups(to);
                Check.due("the hand is always there", HAND, hand.now(3));
            }
        }
    }

    private static void cupsThatAreChanged() {
        CupsAndPea x = Check.with(6);
        x.pea(5);
        x.cups(3);
        Check.due("back to six, it stays where it came", 0, x.cups(6) - 3 + x.now(3));
        Check.due("a sixth place again", 0, x.pea(5));
        x.eye(3, 0, 7);
        x.cups(4);
        Check.due("how an eye slips stays", 7, x.eye(3, 0, 7));
        x.pass(PASS, 3, 2);
        Check.due("with one pass", Check.STATE, x.cups(4));
        x.back();
        Check.due("with none any more", 4, x.cups(5));
        x.shuffle(12);
        x.shuffle(2);
        Check.due("with fourteen", Check.STATE, x.cups(5));
    }

    /** The least place that is neither: 0, or 1 beside 0, or 2 beside 0 and 1. */
    private static int third(int a, int b) {
        if (a != 0 && b != 0) {
            return 0;
        }
        return a != 1 && b != 1 ? 1 : 2;
    }

    private static void thirdPlaces() {
        int[][] due = {{0, 1, 2}, {1, 0, 2}, {0, 2, 1}, {2, 0, 1}, {1, 2, 0}, {2, 1, 0}, {0, 5, 1}, {5, 0, 1}, {1, 5, 0}, {5, 1, 0},
            {2, 3, 0}, {4, 5, 0}, {5, 4, 0}, {3, 0, 1}};
        for (int[] w : due) {
            CupsAndPea x = Check.with(6, WHIRL, w[0], w[1]);
            Check.due("a whirl of " + w[0] + ", " + w[1] + " looks to", w[2], x.of(0, 3));
            Check.due("a", w[0], x.of(0, 1));
            Check.due("b", w[1], x.of(0, 2));
            for (int kind = 0; kind < 7; kind++) {
                x.change(0, kind);
                Check.due("kind " + kind + " looks to", kind == WHIRL ? w[2] : w[1], x.of(0, 3));
            }
        }
    }

    /** Where what is at a place comes to, as the words say it of each kind. */
    private static int thing(int kind, int a, int b, int at) {
        if (kind == FEINT || at == HAND) {
            return at;
        }
        if (kind == WHIRL) {
            int c = third(a, b);
            return at == a ? b : at == b ? c : at == c ? a : at;
        }
        return at == a ? b : at == b ? a : at;
    }

    private static int pea(int kind, int a, int b, int at) {
        if (kind == LIFT && at == a) {
            return HAND;
        }
        return kind == DROP && at == HAND ? b : thing(kind, a, b, at);
    }

    private static void onePass(int cups, int kind) {
        for (int a = 0; a < cups; a++) {
            for (int b = 0; b < cups; b++) {
                if (a == b) {
                    continue;
                }
                CupsAndPea x = Check.with(cups, kind, a, b);
                for (int at = HAND; at < cups; at++) {
                    String what = "kind " + kind + " of " + a + ", " + b + ", cups " + cups + ", from " + at;
                    x.pea(at);
                    Check.due(what + ": where, behind none", at, x.where(0));
                    int then = pea(kind, a, b, at);
                    Check.due(what + ": where", then, x.where(1));
                    Check.due(what + ": moves", then == at ? 0 : 1, x.moves());
                    if (at != HAND) {
                        Check.due(what + ": goes, behind none", at, x.goes(at, 0));
                        Check.due(what + ": goes", thing(kind, a, b, at), x.goes(at, 1));
                    }
                }
            }
        }
    }

    /** What is at a place goes its way whether the pea is there, elsewhere or in the hand. */
    private static void underThePea() {
        CupsAndPea x = Check.with(3, LIFT, 0, 1, DROP, 1, 2);
        int[] due = {2, 0, 1};
        for (int begin = HAND; begin < 3; begin++) {
            x.pea(begin);
            for (int place = 0; place < 3; place++) {
                Check.due("goes " + place + ", pea at " + begin, due[place], x.goes(place, 2));
            }
        }
        // Lifted at 0 and dropped at 2; from 1 to 0; from 2 to 1; from the hand to 2.
        int[] then = {2, 2, 0, 1};
        for (int begin = HAND; begin < 3; begin++) {
            x.pea(begin);
            Check.due("where, from " + begin, then[begin + 1], x.where(2));
        }
    }

    private static void noPasses() {
        CupsAndPea x = new CupsAndPea();
        Check.due("none", 0, x.now(2));
        Check.due("moves of none", 0, x.moves());
        Check.due("where behind none", 0, x.where(0));
        Check.due("where behind one", Check.BEYOND, x.where(1));
        Check.due("goes behind none", 2, x.goes(2, 0));
        Check.due("goes behind one", Check.BEYOND, x.goes(2, 1));
        Check.due("of the first", Check.BEYOND, x.of(0, 0));
        Check.due("change the first", Check.BEYOND, x.change(0, 0));
        Check.due("back", Check.NONE, x.back());
        Check.due("five findings", 5, x.status(-1));
    }

    private static void fourteenPasses() {
        CupsAndPea x = new CupsAndPea();
        for (int i = 0; i < 14; i++) {
            Check.due("number", i, x.pass(PASS, i % 3, (i + 1) % 3));
            Check.due("so many", i + 1, x.now(2));
        }
        Check.due("a 15th", Check.FULL, x.pass(PASS, 0, 1));
        // Always on by one: 0 to 1, 1 to 2, 2 to 0.
        for (int k = 0; k <= 14; k++) {
            Check.due("where " + k, k % 3, x.where(k));
            Check.due("goes " + k, k % 3, x.goes(0, k));
        }
        Check.due("where 15", Check.BEYOND, x.where(15));
        Check.due("goes 15", Check.BEYOND, x.goes(0, 15));
        Check.due("the last one's a", 1, x.of(13, 1));
        Check.due("the last one's b", 2, x.of(13, 2));
        Check.due("of a 15th", Check.BEYOND, x.of(14, 1));
        Check.due("the last one changed", PASS, x.change(13, FEINT));
        Check.due("it does nothing then", 1, x.where(14));
        Check.due("change a 15th", Check.BEYOND, x.change(14, FEINT));
        Check.due("moves at all but the last", (1 << 13) - 1, x.moves());
    }

    private static void upAndDown() {
        CupsAndPea x = new CupsAndPea();
        x.shuffle(12);
        x.shuffle(2);
        for (int left = 13; left >= 0; left--) {
            Check.due("back", left, x.back());
            Check.due("that one isn't there", Check.BEYOND, x.of(left, 0));
            Check.due("nor behind it", Check.BEYOND, x.where(left + 1));
        }
        Check.due("back of none", Check.NONE, x.back());
        Check.due("and again", Check.NONE, x.back());
        Check.due("the first", 0, x.pass(QUICK, 2, 0));
        Check.due("is as told", QUICK, x.of(0, 0));
        Check.due("one back", 0, x.back());
    }

    private static void changes() {
        CupsAndPea x = Check.with(4, PASS, 3, 1, PASS, 0, 2);
        int was = PASS;
        for (int kind = 6; kind >= 0; kind--) {
            for (int other = 0; other < 7; other++) {
                Check.due("what it was", was, x.change(1, other));
                Check.due("as which it changed", other, x.change(1, kind));
                was = kind;
            }
            Check.due("the other one is as it was", PASS, x.of(0, 0));
            Check.due("a stays", 0, x.of(1, 1));
            Check.due("b stays", 2, x.of(1, 2));
        }
    }

    private static void movesOfTheHand() {
        // It stays in the hand at all but a drop.
        CupsAndPea x = Check.with(3, PASS, 0, 1, FEINT, 0, 1, LIFT, 0, 1, WHIRL, 0, 1, SLOW, 0, 1, QUICK, 0, 1, DROP, 0, 1, DROP, 0, 2);
        x.pea(HAND);
        Check.due("from the hand", 64, x.moves());
        x.change(7, LIFT);
        x.pass(LIFT, 1, 2);
        x.pass(LIFT, 1, 2);
        Check.due("and into it", 64 + 256, x.moves());
        for (int k = 0; k <= 10; k++) {
            Check.due("where " + k, k == 7 || k == 8 ? 1 : HAND, x.where(k));
        }
    }
}

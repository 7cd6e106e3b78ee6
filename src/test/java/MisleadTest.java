/** Promises 18 to 22: what misleads an eye. */
final class MisleadTest implements Kinds {
    public static void main(String[] args) {
        watch();
        feint();
        kindFor();
        misled();
        row();
        fullRows();
        Check.end();
    }

    private static void watch() {
        CupsAndPea x = Check.with(3, PASS, 0, 1, QUICK, 1, 2);
        // Pea at 2. Watching 0: 10 at 1, then 6 of 10 at 2: 60. Watching 1: 8 at 1 and 2 at 2, changed: 80.
        Check.due("the quick one", 1, x.watch(0));
        x.change(0, QUICK);
        x.change(1, PASS);
        // Watching 0: 80. Watching 1: 6 at 1, changed: 60.
        Check.due("the quick one first", 0, x.watch(0));
        x.change(0, PASS);
        // Watching 0: 80 at 2. Watching 1: 8 at 1, changed: 80.
        Check.due("as good", 0, x.watch(0));
        x.change(0, WHIRL);
        // A whirl looks like 0 and 2, and does 0 to 1; then 1 to 2. Watching 0: 10 at 2, then 2 stay.
        // Watching 1: 8 at 2, 2 at 1 (behind 2 is 0, then 1), changed: 2 at 2: 20.
        Check.due("as good with a whirl", 0, x.watch(0));
        CupsAndPea y = Check.with(3, SLOW, 0, 1, PASS, 1, 2);
        Check.due("not the slow one", 1, y.watch(0));
        CupsAndPea aside = Check.with(6, PASS, 3, 4, PASS, 0, 1);
        aside.eye(0, 0, 1);
        Check.due("not the one aside", 1, aside.watch(0));
        aside.back();
        Check.due("the only one", 0, aside.watch(0));
        y.pea(-1);
        Check.due("nothing helps", 0, y.watch(0));
        Check.due("nothing changed", SLOW, y.of(0, 0));
        Check.due("no passes", Check.NONE, new CupsAndPea().watch(0));
        Check.due("watch of 4", Check.BEYOND, y.watch(4));
        Check.due("watch of -1, no passes", Check.BEYOND, new CupsAndPea().watch(-1));
    }

    private static void feint() {
        CupsAndPea x = Check.with(3, PASS, 1, 2, PASS, 0, 1);
        // As a feint 0 does nothing to the pea at 0: right stays. As a feint 1 leaves the pea at 0.
        Check.due("the one that moves it", 1, x.feint(0));
        CupsAndPea y = Check.with(3, PASS, 0, 1, PASS, 1, 2);
        // Feint 0: pea at 0, weight 16. Feint 1: pea at 1, weight 16.
        Check.due("as good", 0, y.feint(0));
        Check.due("the only one", 0, Check.with(3, PASS, 1, 2).feint(0));
        y.eye(0, 0, 3);
        // Feint 0: at 0: 7 at 1, 3 at 2; slipping 3 of 7 to 0: 21. Feint 1: at 1: from 2: 7 of 3: 21.
        Check.due("as good again", 0, y.feint(0));
        CupsAndPea whirl = Check.with(3, WHIRL, 0, 1, WHIRL, 1, 0);
        // Pea 0 to 1 to 0. Feint 0 (looks like 0, 1): pea at 0, then 0 to 2. Feint 1: pea at 1.
        // Feint 0: 8 at 1, 2 at 2; then 1 and 2: 1 to 2 64, 1 to 0 16 (behind 2), 2 to 1 16, 2 stays 4: at 2 68.
        // Feint 1: 8 at 2, 2 at 1 (behind 2 is 0, then 1); then 1 and 0: 2 stays 64, to 1 16 (behind 0 is 1, then 2);
        // 1 to 0 16, 1 to 2 4: at 1 16.
        Check.due("of two whirls", 1, whirl.feint(0));
        Check.due("nothing changed", WHIRL, whirl.of(1, 0));
        CupsAndPea slow = Check.with(3, SLOW, 1, 2, QUICK, 1, 2);
        // The pea is at 0 either way. A feint slips by 2: nothing that is at 0 comes to 1 or 2 by slipping, but the
        // place behind 2 is 0: 0 to 1. Feint 0: 8 stay, 2 at 1; then by 4: of 8 stay 48, of 1: 4 of 2 come: 8: 56.
        // Feint 1: 10 stay by the slow one, then 8 of 10: 80.
        Check.due("it slips then", 0, slow.feint(0));
        Check.due("no passes", Check.NONE, new CupsAndPea().feint(0));
        Check.due("feint of 4", Check.BEYOND, slow.feint(4));
        Check.due("feint of -1, no passes", Check.BEYOND, new CupsAndPea().feint(-1));
    }

    private static void kindFor() {
        CupsAndPea x = Check.with(3, PASS, 0, 1);
        // Pass: 8. Feint: 0.
        Check.due("a feint", FEINT, x.kindFor(0, 0));
        x.pea(1);
        // Pass: pea at 0, weight 0.
        Check.due("a pass", PASS, x.kindFor(0, 0));
        x.pea(2);
        // Pass: pea stays at 2, weight 2. Feint as well, lift, drop. Whirl: to 0, weight 0.
        Check.due("a whirl", WHIRL, x.kindFor(0, 0));
        x.eye(0, 1, 2);
        // Pass: 8 stay. Quick: 6 stay. Whirl: looks like 0 and 2, 8 to 0, where the pea comes.
        Check.due("a quick one", QUICK, x.kindFor(0, 0));
        x.eye(0, 0, 0);
        // All stay, but a whirl brings both to 0.
        Check.due("none is better", PASS, x.kindFor(0, 0));
        CupsAndPea y = Check.with(3, FEINT, 1, 2);
        y.pea(-1);
        y.eye(0, 1, 1);
        Check.due("in the hand", PASS, y.kindFor(0, 0));
        CupsAndPea lift = Check.with(3, PASS, 0, 1, PASS, 2, 1);
        lift.eye(0, 0, 0);
        // Pea at 1, then 2. As a feint: pea at 1, eye at 2: 0 already.
        Check.due("a feint again", FEINT, lift.kindFor(0, 1));
        lift.eye(0, 0, 5);
        // 5 at 1, 5 at 2; of 2 and 1 (behind 1 is 2, then 0): 1 to 2 25, 1 stays 25, 2 to 1 25, 2 to 0 25.
        // Pass: 25. Feint: pea at 1: 50. Lift 25. Drop 25. Whirl (2, 1, 0; looks like 2 and 0): pea 1 to 0:
        // 1 stays, 2 to 0 25, to 1 25 (behind 0): 25. Slow: 5 at 2 of 10: 50. Quick: 1 to 1, 2 to 0: 0 at 2.
        Check.due("a quick one at once", QUICK, lift.kindFor(0, 1));
        CupsAndPea hidden = Check.with(3, SLOW, 0, 1);
        hidden.eye(0, 0, 0);
        hidden.eye(0, 1, 0);
        Check.due("a feint for a slow one", FEINT, hidden.kindFor(0, 0));
        CupsAndPea taken = Check.with(4, PASS, 1, 2, PASS, 1, 3);
        taken.pea(1);
        taken.eye(1, 1, 1);
        taken.eye(1, 0, 1);
        // Both at 1: 9 at 2, 1 at 3, pea at 2. Pass of 1 and 3 leaves it: 9 of 9 stay. A lift does not take it.
        Check.due("a whirl takes it away", WHIRL, taken.kindFor(1, 1));
        Check.due("but the lift is first where it lies", LIFT, liftFirst().kindFor(0, 0));
        Check.due("nothing changed", PASS, taken.of(1, 0));
        Check.due("kindFor 2", Check.BEYOND, taken.kindFor(0, 2));
        Check.due("kindFor -1", Check.BEYOND, taken.kindFor(0, -1));
        Check.due("kindFor of 4", Check.BEYOND, taken.kindFor(4, 0));
        Check.due("kindFor of -1", Check.BEYOND, taken.kindFor(-1, 0));
    }

    /** A pass of 1 and 2 (behind: 0), slip 5, the eye from 2: 5 at 1, 5 at 2; the pea at 1 comes to 2, as a feint not. */
    private static CupsAndPea liftFirst() {
        CupsAndPea x = Check.with(3, PASS, 1, 2);
        x.pea(1);
        x.eye(0, 0, 5);
        x.eye(0, 1, 2);
        return x;
    }

    private static void misled() {
        CupsAndPea x = new CupsAndPea();
        // Pass of 0, 1: 8 where the pea is; of 0, 2: 8; of 1, 2: 8 stay (behind 2 is 0).
        Check.due("one pass", 8, x.misled(0, 1, PASS));
        Check.due("one feint", 0, x.misled(0, 1, FEINT));
        Check.due("one lift", 0, x.misled(0, 1, LIFT));
        Check.due("one slow one", 10, x.misled(0, 1, SLOW));
        Check.due("one quick one", 6, x.misled(0, 1, QUICK));
        Check.due("three slow ones", 1000, x.misled(0, 3, SLOW));
        Check.due("four slow ones", 10000, x.misled(0, 4, SLOW));
        // Behind one pass of 0, 1: 8 at 1, 2 at 2. Pass of 0, 1 again: 64 at 0, and 4 at 0 from 2: 68; of 0, 2: 8 of 8 stay,
        // and of 1 to 0 ..: 64 + 4; of 1, 2: 64 + 4 of 2 that stay.
        Check.due("two passes", 64, x.misled(0, 2, PASS));
        Check.due("nothing was added", 0, x.now(2));
        x.eye(1, 0, 10);
        Check.due("who slips always", 0, x.misled(1, 1, PASS));
        beyondAndFull(x, -1);
    }

    private static void row() {
        CupsAndPea less = new CupsAndPea();
        less.pea(2);
        less.eye(0, 0, 1);
        // Of 0, 1: 1 at 2. Of 0, 2: the pea to 0, nothing there.
        Check.due("less than 1", 0, less.misled(0, 1, PASS));
        Check.due("less than 1, so", 2, less.row(0, 1, PASS, 0));
        CupsAndPea x = new CupsAndPea();
        Check.due("the first of as good ones", 1, x.row(0, 1, PASS, 0));
        // A feint of 0, 1 brings the weight to 1 and 2.
        Check.due("a feint", 1, x.row(0, 1, FEINT, 0));
        x.pea(1);
        // Of 0, 1: pea to 0, the weight to 1 and 2. Of 1, 2: pea to 2, the weight stays.
        Check.due("a pass", 1, x.row(0, 1, PASS, 0));
        x.pea(2);
        // Of 0, 1: pea stays, weight 2; of 0, 2: pea to 0, the weight to 2 and 1: 0.
        Check.due("another pass", 2, x.row(0, 1, PASS, 0));
        // Behind 0, 2: 2 at 1 and 8 at 2, the pea at 0. Then 0, 1 (behind: 2) leaves 2 of 2 where it comes: none is less.
        Check.due("of two the first", 2, x.row(0, 2, PASS, 0));
        Check.due("of two the second", 1, x.row(0, 2, PASS, 1));
        Check.due("of two", 4, x.misled(0, 2, PASS));
        CupsAndPea y = Check.with(5);
        y.pea(3);
        y.eye(0, 1, 3);
        // Only a lift with a 3 takes it: of 3 and 4, as a is below b.
        Check.due("a lift", 34, y.row(0, 1, LIFT, 0));
        Check.due("two lifts", 1, y.row(0, 2, LIFT, 0));
        Check.due("two lifts, the second", 34, y.row(0, 2, LIFT, 1));
        Check.due("four lifts, the third", 1, y.row(0, 4, LIFT, 2));
        Check.due("four lifts, the last", 34, y.row(0, 4, LIFT, 3));
        beyondAndFull(y, 0);
        Check.due("i -1", Check.BEYOND, y.row(0, 2, PASS, -1));
        Check.due("i 2", Check.BEYOND, y.row(0, 2, PASS, 2));
        CupsAndPea z = Check.with(4, PASS, 1, 3, FEINT, 0, 2);
        z.pea(3);
        z.eye(2, 1, 1);
        long least = z.misled(2, 3, QUICK);
        int[] row = {z.row(2, 3, QUICK, 0), z.row(2, 3, QUICK, 1), z.row(2, 3, QUICK, 2)};
        for (int pass : row) {
            z.pass(QUICK, pass / 10, pass % 10);
        }
        Check.due("so it is behind these", least, z.right(2));
    }

    /** The wrong calls of both; i below 0: those of misled(). */
    private static void beyondAndFull(CupsAndPea x, int i) {
        int[][] beyond = {{-1, 1, 0}, {4, 1, 0}, {0, 0, 0}, {0, 5, 0}, {0, 1, -1}, {0, 1, 7}, {0, Integer.MAX_VALUE, 0}};
        for (int[] w : beyond) {
            Check.due("such a row", Check.BEYOND, i < 0 ? x.misled(w[0], w[1], w[2]) : x.row(w[0], w[1], w[2], i));
        }
        while (x.now(2) < 11) {
            x.pass(SLOW, 1, 2);
        }
        Check.due("14 passes", 1, i < 0 ? x.misled(0, 3, PASS) >= 0 ? 1 : 0 : x.row(0, 3, PASS, i) >= 0 ? 1 : 0);
        Check.due("15 passes", Check.FULL, i < 0 ? x.misled(0, 4, PASS) : x.row(0, 4, PASS, i));
        Check.due("beyond is asked first", Check.BEYOND, i < 0 ? x.misled(0, 4, 7) : x.row(0, 4, 7, i));
        while (x.now(2) > 0) {
            x.back();
        }
    }

    /** Rows of four of six cups, against all rows tried one by one. */
    private static void fullRows() {
        int[][] kindsAndSlips = {{PASS, 3}, {DROP, 1}, {WHIRL, 4}, {QUICK, 2}};
        for (int[] now : kindsAndSlips) {
            CupsAndPea x = new CupsAndPea();
            Model m = new Model();
            x.cups(6);
            m.cups(6);
            for (int kind = 0; kind < 3; kind++) {
                x.pass(kind, kind, 5 - kind);
                m.pass(kind, kind, 5 - kind);
            }
            x.pea(5);
            m.pea(5);
            x.eye(1, 1, 5);
            m.eye(1, 1, 5);
            x.eye(1, 0, now[1]);
            m.eye(1, 0, now[1]);
            Check.due("misled by four of " + now[0], m.misled(1, 4, now[0]), x.misled(1, 4, now[0]));
            for (int i = 0; i < 4; i += 3) {
                Check.due("row of four of " + now[0], m.row(1, 4, now[0], i), x.row(1, 4, now[0], i));
            }
        }
    }
}

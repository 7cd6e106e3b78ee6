/** Promises 1 to 10: a new object, cups, passes and where they bring what. */
final class PassesTest implements Kinds {
    public static void main(String[] args) {
        newObject();
        cups();
        pea();
        pass();
        of();
        change();
        back();
        where();
        goes();
        moves();
        Check.end();
    }

    private static void newObject() {
        CupsAndPea x = new CupsAndPea();
        int[] counts = {0, 3, 200, 16, 8, 0, 1, 0};
        for (int what = 0; what < counts.length; what++) {
            Check.due("new count " + what, counts[what], x.count(what));
        }
        int[] nows = {0, 3, 0, 0, 0};
        for (int what = 0; what < nows.length; what++) {
            Check.due("new now " + what, nows[what], x.now(what));
        }
        for (int i = 0; i < 4; i++) {
            Check.due("new slip", 2, x.eye(i, 0, 2));
            Check.due("new begin", 0, x.eye(i, 1, 0));
            int[] own = {50, 4, 2, 0, 0};
            for (int what = 0; what < own.length; what++) {
                Check.due("new told " + what, own[what], x.told(i, what));
            }
            Check.due("new sheet", Check.MISSING, x.judge(i));
        }
        for (int spot = 0; spot < 10; spot++) {
            Check.due("new spot", Check.MISSING, x.as(spot, 0));
        }
        Check.due("no image", Check.NONE, x.undo());
        Check.due("no image", 0, x.tear());
        CupsAndPea y = new CupsAndPea();
        Check.due("nothing was found", 0, y.status(-1));
        y.pea(2);
        Check.due("objects of their own", 0, new CupsAndPea().now(3));
    }

    private static void cups() {
        CupsAndPea x = new CupsAndPea();
        Check.due("cups 4", 3, x.cups(4));
        Check.due("cups 6", 4, x.cups(6));
        Check.due("cups 6 again", 6, x.cups(6));
        Check.due("cups 2", Check.BEYOND, x.cups(2));
        Check.due("cups 7", Check.BEYOND, x.cups(7));
        x.pea(4);
        x.eye(0, 1, 5);
        x.eye(1, 1, 5);
        x.eye(3, 1, 5);
        x.eye(2, 1, 4);
        x.cups(5);
        Check.due("pea is still there", 4, x.now(3));
        for (int eye = 0; eye < 4; eye++) {
            if (eye != 2) {
                Check.due("the place of eye " + eye + " is not", 0, x.eye(eye, 1, 0));
            }
        }
        Check.due("the other eye's is", 4, x.eye(2, 1, 4));
        x.cups(4);
        Check.due("pea is not there any more", 0, x.now(3));
        Check.due("nor the eye's place", 0, x.eye(2, 1, 0));
        x.pea(-1);
        x.cups(3);
        Check.due("the hand is always there", -1, x.now(3));
        x.pass(PASS, 0, 1);
        Check.due("cups with passes", Check.STATE, x.cups(4));
        Check.due("cups with passes, as many", Check.STATE, x.cups(3));
        Check.due("beyond is asked first", Check.BEYOND, x.cups(7));
        Check.due("still three", 3, x.now(1));
        x.back();
        Check.due("cups with none", 3, x.cups(4));
    }

    private static void pea() {
        CupsAndPea x = new CupsAndPea();
        Check.due("pea 2", 0, x.pea(2));
        Check.due("pea in the hand", 2, x.pea(-1));
        Check.due("pea 0", -1, x.pea(0));
        Check.due("pea 3 of 3", Check.BEYOND, x.pea(3));
        Check.due("pea -2", Check.BEYOND, x.pea(-2));
        for (int wild : Check.WILD) {
            Check.due("pea " + wild, Check.BEYOND, x.pea(wild));
        }
        Check.due("where it was", 0, x.now(3));
        x.pass(PASS, 0, 1);
        Check.due("it begins elsewhere", 0, x.pea(1));
        Check.due("and ends elsewhere", 0, x.where(1));
    }

    private static void pass() {
        CupsAndPea x = new CupsAndPea();
        int[][] beyond = {{-1, 0, 1}, {7, 0, 1}, {0, -1, 1}, {0, 0, -1}, {0, 3, 1}, {0, 0, 3}, {0, 1, 1}};
        for (int[] p : beyond) {
            Check.due("such a pass", Check.BEYOND, x.pass(p[0], p[1], p[2]));
        }
        for (int wild : Check.WILD) {
            Check.due("wild kind", Check.BEYOND, x.pass(wild, 0, 1));
            Check.due("wild a", Check.BEYOND, x.pass(0, wild, 1));
            Check.due("wild b", Check.BEYOND, x.pass(0, 0, wild));
        }
        for (int i = 0; i < 14; i++) {
            Check.due("pass " + i, i, x.pass(i % 7, i % 3, (i + 1) % 3));
        }
        Check.due("a 15th", Check.FULL, x.pass(0, 0, 1));
        Check.due("beyond is asked first", Check.BEYOND, x.pass(0, 0, 0));
        Check.due("still 14", 14, x.now(2));
    }

    private static void of() {
        CupsAndPea x = Check.with(4, QUICK, 3, 1, WHIRL, 0, 1, WHIRL, 2, 0, WHIRL, 3, 1, WHIRL, 1, 2, FEINT, 2, 3);
        int[][] due = {{6, 3, 1, 1}, {4, 0, 1, 2}, {4, 2, 0, 1}, {4, 3, 1, 0}, {4, 1, 2, 0}, {1, 2, 3, 3}};
        for (int pass = 0; pass < due.length; pass++) {
            for (int what = 0; what < 4; what++) {
                Check.due("of " + pass + " " + what, due[pass][what], x.of(pass, what));
            }
        }
        Check.due("of 6", Check.BEYOND, x.of(6, 0));
        Check.due("of -1", Check.BEYOND, x.of(-1, 0));
        Check.due("of what 4", Check.BEYOND, x.of(0, 4));
        Check.due("of what -1", Check.BEYOND, x.of(0, -1));
        x.back();
        Check.due("of one taken back", Check.BEYOND, x.of(5, 0));
    }

    private static void change() {
        CupsAndPea x = Check.with(3, LIFT, 2, 1);
        Check.due("change to whirl", LIFT, x.change(0, WHIRL));
        Check.due("its look", 0, x.of(0, 3));
        Check.due("change to quick", WHIRL, x.change(0, QUICK));
        Check.due("its a", 2, x.of(0, 1));
        Check.due("its b", 1, x.of(0, 2));
        Check.due("to 7", Check.BEYOND, x.change(0, 7));
        Check.due("to -1", Check.BEYOND, x.change(0, -1));
        Check.due("of 1", Check.BEYOND, x.change(1, 0));
        Check.due("of -1", Check.BEYOND, x.change(-1, 0));
        Check.due("still quick", QUICK, x.of(0, 0));
    }

    private static void back() {
        CupsAndPea x = Check.with(3, PASS, 0, 1, PASS, 1, 2);
        Check.due("back", 1, x.back());
        Check.due("the first is left", 1, x.where(1));
        Check.due("back", 0, x.back());
        Check.due("back of none", Check.NONE, x.back());
        Check.due("still none", 0, x.now(2));
        Check.due("the next is the first", 0, x.pass(WHIRL, 2, 0));
        Check.due("and as told", 2, x.of(0, 1));
    }

    private static void where() {
        CupsAndPea x = Check.with(4, PASS, 1, 0, FEINT, 1, 2, WHIRL, 3, 1, SLOW, 0, 2, QUICK, 2, 1, LIFT, 3, 1, LIFT, 1, 0,
            DROP, 1, 2, DROP, 3, 2);
        int[] due = {0, 1, 1, 0, 2, 1, 3, 3, 3, 2};
        for (int k = 0; k < due.length; k++) {
            Check.due("where " + k, due[k], x.where(k));
        }
        Check.due("where 10", Check.BEYOND, x.where(10));
        Check.due("where -1", Check.BEYOND, x.where(-1));

        CupsAndPea y = Check.with(3, LIFT, 0, 1, LIFT, 0, 1, WHIRL, 0, 1, PASS, 1, 2, DROP, 0, 2, DROP, 2, 0, LIFT, 1, 0, LIFT, 1, 0);
        int[] then = {0, -1, -1, -1, -1, 2, 0, 1, -1};
        for (int k = 0; k < then.length; k++) {
            Check.due("where of the lifted one " + k, then[k], y.where(k));
        }
        // A whirl goes a to b, b to c, c to a.
        CupsAndPea z = Check.with(5, WHIRL, 4, 2, WHIRL, 4, 2, WHIRL, 4, 2);
        z.pea(4);
        int[] ring = {4, 2, 0, 4};
        for (int k = 0; k < ring.length; k++) {
            Check.due("where in the whirl " + k, ring[k], z.where(k));
        }
        z.pea(3);
        Check.due("outside of it", 3, z.where(3));
    }

    private static void goes() {
        CupsAndPea x = Check.with(4, LIFT, 0, 1, DROP, 1, 3, WHIRL, 2, 0, FEINT, 2, 3);
        int[][] due = {{0, 1, 3, 3, 3}, {1, 0, 0, 1, 1}, {2, 2, 2, 0, 0}, {3, 3, 1, 2, 2}};
        for (int place = 0; place < 4; place++) {
            for (int k = 0; k <= 4; k++) {
                Check.due("goes " + place + " " + k, due[place][k], x.goes(place, k));
            }
        }
        Check.due("goes 4", Check.BEYOND, x.goes(4, 0));
        Check.due("goes of the hand", Check.BEYOND, x.goes(-1, 0));
        Check.due("goes behind 5", Check.BEYOND, x.goes(0, 5));
        Check.due("goes behind -1", Check.BEYOND, x.goes(0, -1));
    }

    private static void moves() {
        CupsAndPea x = Check.with(4, PASS, 1, 2, PASS, 0, 1, FEINT, 1, 0, LIFT, 1, 3, PASS, 0, 1, DROP, 0, 2, WHIRL, 0, 1, SLOW, 0, 1);
        // At 0: not, to 1, not, into the hand, not, to 2, to 0, to 1.
        Check.due("moves", 2 + 8 + 32 + 64 + 128, x.moves());
        Check.due("moves of none", 0, new CupsAndPea().moves());
        CupsAndPea y = Check.with(3, PASS, 0, 1, PASS, 0, 1, PASS, 0, 1, PASS, 0, 1, PASS, 0, 1, PASS, 0, 1, PASS, 0, 1, PASS, 0, 1,
            PASS, 0, 1, PASS, 0, 1, PASS, 0, 1, PASS, 0, 1, PASS, 0, 1, PASS, 0, 1);
        Check.due("moves of all", (1 << 14) - 1, y.moves());
    }
}

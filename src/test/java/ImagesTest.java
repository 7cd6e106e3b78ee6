/** Promises 47 to 51: images, counts and findings. */
final class ImagesTest {
    public static void main(String[] args) {
        image();
        undoAll();
        undoAgain();
        notKept();
        tear();
        count();
        status();
        longFindings();
        Check.end();
    }

    private static void image() {
        CupsAndPea x = new CupsAndPea();
        Check.due("undo of nothing", Check.NONE, x.undo());
        x.pea(1);
        Check.due("image", 1, x.image());
        x.pea(2);
        Check.due("another image", 1, x.image());
        x.pea(0);
        x.undo();
        Check.due("the latest", 2, x.now(3));
    }

    private static CupsAndPea full() {
        CupsAndPea x = Check.with(5, 3, 1, 2, 4, 0, 4, 6, 2, 3);
        x.pea(4);
        x.seed(77);
        for (int i = 0; i < 4; i++) {
            x.eye(i, 0, 3 + i);
            x.eye(i, 1, 4 - i);
            x.player(i, 0, 60 + i);
            x.player(i, 1, 9 + i);
            x.player(i, 2, 4 + i);
            x.round(i, i % 2);
        }
        for (int spot = 0; spot < 10; spot++) {
            x.hold(spot, spot % 3);
        }
        return x;
    }

    private static void spots(String what, CupsAndPea x) {
        for (int spot = 0; spot < 10; spot++) {
            Check.due(what + ": spot " + spot, spot % 3, x.as(spot, 0));
        }
    }

    private static void undoAll() {
        CupsAndPea x = full();
        String before = Check.state(x);
        x.image();
        x.change(0, 1);
        x.back();
        x.back();
        x.pass(5, 3, 4);
        x.pass(0, 4, 3);
        x.pass(0, 0, 1);
        x.pea(-1);
        x.shuffle(3);
        for (int i = 0; i < 4; i++) {
            x.eye(i, 0, 0);
            x.eye(i, 1, 2);
            x.round(i, 0);
            x.player(i, 0, 1);
            x.player(i, 1, 2);
            x.player(i, 2, 3);
        }
        for (int spot = 0; spot < 10; spot++) {
            x.hold(spot, spot % 2 == 0 ? -1 : 4);
        }
        Check.due("undo", 3, x.undo());
        Check.same("all is as it was", before, Check.state(x));
        spots("undone", x);
        while (x.now(2) > 0) {
            x.back();
        }
        x.cups(3);
        Check.due("undo again", 3, x.undo());
        Check.same("with its cups", before, Check.state(x));
        spots("undone again", x);
    }

    private static void undoAgain() {
        CupsAndPea x = full();
        String before = Check.state(x);
        x.image();
        x.undo();
        // What is changed behind undo() does not change what is kept.
        x.change(1, 0);
        x.pea(0);
        x.hold(0, -1);
        x.eye(0, 0, 9);
        x.player(0, 0, 9);
        x.seed(9);
        Check.due("it stays", 3, x.undo());
        Check.same("as it was", before, Check.state(x));
        spots("kept", x);
        x.back();
        Check.due("a spot of one taken back", Check.MISSING, x.as(2, 0));
        x.undo();
        Check.due("it is there again", 2, x.as(2, 6));
    }

    private static void notKept() {
        CupsAndPea x = Check.with(3, 0, 0, 1);
        Check.feed(x, "pea");
        x.sheet(0, 8, 1);
        x.image();
        Check.feed(x, " 2");
        x.write(0, 0, 7);
        x.sheet(1, 16, 1);
        x.pass(9, 0, 1);
        int findings = x.status(-1);
        x.undo();
        Check.due("findings are as they are", findings, x.status(-1));
        Check.due("the tape too", 5, x.count(5));
        Check.due("the sheet too", 1, x.judge(0));
        Check.due("the other one too", 0, x.judge(1));
        Check.due("the text", 1, x.text());
        Check.due("pea", 2, x.now(3));
    }

    private static void tear() {
        CupsAndPea x = new CupsAndPea();
        Check.due("nothing", 0, x.tear());
        x.image();
        Check.due("something", 1, x.tear());
        Check.due("nothing any more", 0, x.tear());
        Check.due("undo", Check.NONE, x.undo());
        x.pea(1);
        x.image();
        x.pea(2);
        x.undo();
        Check.due("kept anew", 1, x.now(3));
        Check.due("still something", 1, x.tear());
    }

    private static void count() {
        CupsAndPea x = full();
        x.hold(3, -1);
        Check.feed(x, "abc");
        int[] due = {3, 5, (60 - 9) + (61 + 10) + (62 - 11) + (63 + 12), 4 + 20 + 5 + 24, 3 + 4 + 5 + 6, 3, 77, 9};
        for (int what = 0; what < due.length; what++) {
            Check.due("count " + what, due[what], x.count(what));
        }
        Check.due("count 8", Check.BEYOND, x.count(8));
        Check.due("count -1", Check.BEYOND, x.count(-1));
    }

    private static void statuses(String what, CupsAndPea x, int... due) {
        int sum = 0;
        for (int which = 0; which < due.length; which++) {
            Check.due(what + " " + which, due[which], x.status(which));
            sum += due[which];
        }
        Check.due(what + " in all", sum, x.status(-1));
    }

    private static void status() {
        CupsAndPea x = new CupsAndPea();
        statuses("none", x, 0, 0, 0, 0, 0, 0, 0);
        x.back();
        statuses("one", x, 0, 0, 0, 1, 0, 0, 0);
        x.as(0, 0);
        x.as(1, 0);
        statuses("missing", x, 0, 0, 0, 1, 0, 2, 0);
        x.sheet(0, 8, -1);
        statuses("size", x, 0, 0, 0, 1, 0, 2, 1);
        x.pass(1, 0, 1);
        x.hold(0, 0);
        x.as(0, 2);
        statuses("kind", x, 0, 0, 1, 1, 0, 2, 1);
        x.cups(4);
        statuses("state", x, 0, 0, 1, 1, 1, 2, 1);
        x.shuffle(12);
        x.shuffle(2);
        statuses("full", x, 0, 1, 1, 1, 1, 2, 1);
        Check.due("status 7", Check.BEYOND, x.status(7));
        statuses("beyond", x, 1, 1, 1, 1, 1, 2, 1);
        Check.due("status -2", Check.BEYOND, x.status(-2));
        statuses("beyond again", x, 2, 1, 1, 1, 1, 2, 1);
        Check.feed(x, "no");
        x.text();
        x.tear();
        statuses("a fault is none", x, 2, 1, 1, 1, 1, 2, 1);
    }

    private static void longFindings() {
        CupsAndPea x = new CupsAndPea();
        Check.due("weight", Check.BEYOND, x.weight(9, 0, 0));
        Check.due("right", Check.BEYOND, x.right(9));
        Check.due("misled", Check.BEYOND, x.misled(9, 1, 0));
        x.shuffle(12);
        Check.due("misled", Check.FULL, x.misled(0, 3, 0));
        statuses("longs count too", x, 3, 1, 0, 0, 0, 0, 0);
    }
}

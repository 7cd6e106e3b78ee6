/** Promises 47 to 51 where the document names an edge: nothing kept, nothing in it, all in it, each number of findings. */
final class ImagesEdgesTest implements Kinds {
    public static void main(String[] args) {
        nothingKept();
        emptyOne();
        fullOne();
        oneByOne();
        notInIt();
        again();
        torn();
        counts();
        statuses();
        statusAlone();
        Check.end();
    }

    private static void nothingKept() {
        CupsAndPea x = new CupsAndPea();
        Check.due("nothing to tear", 0, x.tear());
        Check.due("nothing to come back to", Check.NONE, x.undo());
        x.shuffle(12);
        Check.due("nor then", Check.NONE, x.undo());
        Check.due("all is there", 12, x.now(2));
    }

    private static CupsAndPea full() {
        CupsAndPea x = new CupsAndPea();
        x.cups(6);
        for (int i = 0; i < 14; i++) {
            x.pass(i % 7, i % 6, (i + 1) % 6);
        }
        fill(x);
        return x;
    }

    private static void fill(CupsAndPea x) {
        x.pea(5);
        x.seed(-7);
        for (int i = 0; i < 4; i++) {
            x.eye(i, 0, 10 - i);
            x.eye(i, 1, 5 - i);
            x.player(i, 0, 9999 - i);
            x.player(i, 1, 99 - i);
            x.player(i, 2, 9 - i);
            x.round(i, 0);
        }
        for (int spot = 0; spot < 10; spot++) {
            x.hold(spot, 13 - spot);
        }
    }

    private static String spots(CupsAndPea x) {
        StringBuilder all = new StringBuilder();
        for (int spot = 0; spot < 10; spot++) {
            all.append(x.as(spot, 0)).append(' ');
        }
        return all.toString();
    }

    /** An image of a new object: all comes back to as it was at first. */
    private static void emptyOne() {
        CupsAndPea x = new CupsAndPea();
        String before = Check.state(x);
        String held = spots(x);
        x.image();
        x.cups(6);
        for (int i = 0; i < 14; i++) {
            x.pass(i % 7, i % 6, (i + 1) % 6);
        }
        fill(x);
        Check.due("no passes", 0, x.undo());
        Check.same("as at first", before, Check.state(x));
        Check.same("spots as at first", held, spots(x));
        Check.due("they hold nothing", 0, x.count(7));
        Check.due("three cups", 3, x.cups(3));
    }

    /** An image of as much as there can be, undone when there is nothing any more. */
    private static void fullOne() {
        CupsAndPea x = full();
        String before = Check.state(x);
        String held = spots(x);
        x.image();
        while (x.now(2) > 0) {
            x.back();
        }
        x.cups(3);
        x.pea(-1);
        for (int i = 0; i < 4; i++) {
            x.player(i, 2, 1);
            x.round(i, 0);
            x.player(i, 0, 0);
        }
        for (int spot = 0; spot < 10; spot++) {
            x.hold(spot, -1);
        }
        Check.due("fourteen", 14, x.undo());
        Check.same("as it was", before, Check.state(x));
        Check.same("spots as they were", held, spots(x));
        Check.due("a 15th", Check.FULL, x.pass(0, 0, 1));
    }

    private interface Act {
        void on(CupsAndPea x);
    }

    /** Each thing alone is kept and comes back. */
    private static void oneByOne() {
        Act[] acts = {x -> x.pea(0), x -> x.pea(-1), x -> x.change(13, SLOW), x -> x.back(), x -> x.seed(9), x -> x.hold(9, -1),
            x -> x.hold(0, 0), x -> x.eye(3, 0, 0), x -> x.eye(3, 1, 0), x -> x.player(3, 0, 7), x -> x.player(3, 1, 7),
            x -> x.player(3, 2, 7), x -> x.round(3, 0), x -> x.round(3, 1), x -> x.play(0, 0), x -> Check.read(x, "pea 0"),
            x -> Check.read(x, "player 0 bears 1"), x -> Check.read(x, "eye 2 slip 0")};
        for (int i = 0; i < acts.length; i++) {
            CupsAndPea x = full();
            x.image();
            acts[i].on(x);
            Check.due("undo " + i, 14, x.undo());
            CupsAndPea twin = full();
            twin.image();
            Check.same("act " + i + " is undone", Probe.all(twin), Probe.all(x));
        }
    }

    /** The tape, sheets and findings are not kept. */
    private static void notInIt() {
        CupsAndPea x = new CupsAndPea();
        x.image();
        Check.feed(x, "pea 1");
        for (int s = 0; s < 4; s++) {
            x.sheet(s, 8, 40);
            x.write(s, 0, s);
        }
        x.back();
        x.undo();
        Check.due("the tape", 5, x.count(5));
        Check.due("one finding", 1, x.status(-1));
        for (int s = 0; s < 4; s++) {
            Check.due("sheet " + s, s == 0 ? 0 : 1, x.judge(s));
            Check.due("all of it", 1, x.write(s, 39, 0));
        }
        x.image();
        x.wipe();
        x.sheet(2, 0, 0);
        x.undo();
        Check.due("the tape is empty", 0, x.count(5));
        Check.due("the sheet is missing", Check.MISSING, x.judge(2));
        Check.due("two findings", 2, x.status(-1));
    }

    /** What is kept stays, whatever is done behind undo(); only the latest is kept. */
    private static void again() {
        CupsAndPea x = new CupsAndPea();
        x.pea(1);
        x.image();
        for (int i = 0; i < 3; i++) {
            x.pea(2);
            x.shuffle(12);
            Check.due("undo", 0, x.undo());
            Check.due("as it was", 1, x.now(3));
        }
        x.pass(0, 0, 1);
        x.image();
        x.pass(0, 0, 1);
        Check.due("the latest", 1, x.undo());
        Check.due("and again the latest", 1, x.undo());
    }

    private static void torn() {
        CupsAndPea x = new CupsAndPea();
        x.image();
        x.image();
        x.undo();
        Check.due("something, once", 1, x.tear());
        Check.due("nothing", 0, x.tear());
        x.pass(0, 0, 1);
        Check.due("nothing to come back to", Check.NONE, x.undo());
        Check.due("all is there", 1, x.now(2));
        Check.due("image", 1, x.image());
        x.back();
        Check.due("undo", 1, x.undo());
        Check.due("something again", 1, x.tear());
    }

    private static void counts() {
        CupsAndPea x = new CupsAndPea();
        int[] none = {0, 3, 200, 16, 8, 0, 1, 0};
        for (int what = 0; what <= 7; what++) {
            Check.due("at first " + what, none[what], x.count(what));
        }
        for (int i = 0; i < 4; i++) {
            x.player(i, 0, 0);
            x.player(i, 1, 1);
            x.eye(i, 0, 0);
        }
        int[] least = {0, 3, 0, 4, 0, 0, 1, 0};
        for (int what = 0; what <= 7; what++) {
            Check.due("the least " + what, least[what], x.count(what));
        }
        CupsAndPea y = Check.with(6);
        y.shuffle(12);
        y.shuffle(2);
        for (int i = 0; i < 4; i++) {
            y.player(i, 0, 9999);
            y.player(i, 1, 99);
            y.round(i, 1);
            y.eye(i, 0, 10);
        }
        for (int i = 0; i < 30; i++) {
            y.feed(0, 4);
        }
        for (int spot = 0; spot < 10; spot++) {
            y.hold(spot, spot);
        }
        y.seed(Check.NONE);
        int[] most = {14, 6, 4 * (9999 + 99), 4 * 99, 40, 120, Check.NONE, 10};
        for (int what = 0; what <= 7; what++) {
            Check.due("the most " + what, most[what], y.count(what));
        }
        Check.due("z is no finding", 0, y.status(-1));
    }

    /** Each finding is counted where it belongs, and in all. */
    private static void statuses() {
        Act[] acts = {x -> x.pea(9), x -> x.shuffle(12), x -> x.as(1, 2), x -> x.surely(2, 0), x -> x.cups(4), x -> x.judge(0),
            x -> x.sheet(0, 8, -1)};
        for (int which = 0; which <= 6; which++) {
            CupsAndPea x = Check.with(3, FEINT, 0, 1, FEINT, 0, 1, FEINT, 0, 1);
            x.hold(1, 0);
            for (int times = 0; times <= 3; times++) {
                for (int other = 0; other <= 6; other++) {
                    Check.due("status " + other, other == which ? times : 0, x.status(other));
                }
                Check.due("in all", times, x.status(-1));
                acts[which].on(x);
            }
            x.image();
            x.undo();
            Check.due("undo() takes none back", 4, x.status(which));
            x.tear();
            Check.due("nor tear()", 4, x.status(-1));
        }
    }

    /** One that is BEYOND is counted from then on. */
    private static void statusAlone() {
        CupsAndPea x = new CupsAndPea();
        int asked = 0;
        for (int which : new int[] {7, -2, Integer.MAX_VALUE, Integer.MIN_VALUE, Check.BEYOND}) {
            Check.due("so many before", asked, x.status(0));
            Check.due("status " + which, Check.BEYOND, x.status(which));
            asked++;
            Check.due("so many then", asked, x.status(0));
            Check.due("in all", asked, x.status(-1));
        }
    }
}

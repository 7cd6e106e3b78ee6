/**
 * Refused calls: what each finding is told for, which one first where two could be told, and that nothing but status()
 * changes, found by comparing with a twin of the object that did not get the call.
 */
final class RefusedTest implements Kinds {
    private interface Call {
        long of(CupsAndPea x);
    }

    private interface Act {
        void on(CupsAndPea x);
    }

    public static void main(String[] args) {
        passes();
        fullPasses();
        eyes();
        misleading();
        seen();
        players();
        tape();
        spots();
        sheets();
        copies();
        images();
        faults();
        Check.end();
    }

    /** One that has something of all: 4 cups, 8 passes, a spot of one taken back, sheets, bytes, an image. */
    private static CupsAndPea rich() {
        CupsAndPea x = Check.with(4, PASS, 0, 1, FEINT, 1, 2, LIFT, 2, 3, DROP, 3, 0, WHIRL, 0, 2, SLOW, 1, 3, QUICK, 2, 0, PASS, 1, 0);
        x.pea(3);
        x.hold(3, 7);
        x.image();
        x.pass(LIFT, 1, 3);
        x.hold(0, 0);
        x.hold(1, 4);
        x.hold(2, 8);
        x.back();
        x.pea(1);
        x.seed(77);
        for (int i = 0; i < 4; i++) {
            x.eye(i, 0, 2 + i);
            x.eye(i, 1, i);
            x.player(i, 0, 40 + i);
            x.player(i, 1, 9 + i);
        }
        x.round(0, 1);
        x.round(1, 0);
        x.round(1, 0);
        x.player(2, 0, 0);
        lay(x, 0, 8, 1, 2, 3, 4, 5);
        lay(x, 1, 16, 6, 5, 4);
        lay(x, 2, 32, 2, 6);
        Check.feed(x, "pass 1 2;pea hand");
        return x;
    }

    private static void lay(CupsAndPea x, int s, int bits, int... numbers) {
        x.sheet(s, bits, numbers.length);
        for (int i = 0; i < numbers.length; i++) {
            x.write(s, i, numbers[i]);
        }
    }

    /** Behind what comes before, the call answers the finding, which is counted, and changes nothing else. */
    private static void refused(String name, Act before, int finding, Call call) {
        CupsAndPea x = rich();
        CupsAndPea twin = rich();
        before.on(x);
        before.on(twin);
        int[] counted = statuses(x);
        Check.due(name, finding, call.of(x));
        int[] then = statuses(x);
        for (int which = -1; which <= 6; which++) {
            int more = which == -1 || Check.BEYOND - which == finding ? 1 : 0;
            Check.due(name + ": status " + which, counted[which + 1] + more, then[which + 1]);
        }
        Check.same(name + " changes nothing", Probe.all(twin), Probe.all(x));
    }

    private static void refused(String name, int finding, Call call) {
        refused(name, x -> { }, finding, call);
    }

    private static int[] statuses(CupsAndPea x) {
        int[] all = new int[8];
        for (int which = -1; which <= 6; which++) {
            all[which + 1] = x.status(which);
        }
        return all;
    }

    private static void clear(CupsAndPea x) {
        while (x.now(2) > 0) {
            x.back();
        }
    }

    private static void fill(CupsAndPea x, int size) {
        while (x.now(2) < size) {
            x.pass(SLOW, 0, 1);
        }
    }

    private static void passes() {
        refused("cups 2, with passes", Check.BEYOND, x -> x.cups(2));
        refused("cups 7, with passes", Check.BEYOND, x -> x.cups(7));
        refused("cups 2", RefusedTest::clear, Check.BEYOND, x -> x.cups(2));
        refused("cups 7", RefusedTest::clear, Check.BEYOND, x -> x.cups(7));
        refused("cups 3, with passes", Check.STATE, x -> x.cups(3));
        refused("cups 4 again, with passes", Check.STATE, x -> x.cups(4));
        refused("cups 6, with one pass", x -> {
            clear(x);
            x.pass(PASS, 0, 1);
        }, Check.STATE, x -> x.cups(6));
        refused("pea 4", Check.BEYOND, x -> x.pea(4));
        refused("pea -2", Check.BEYOND, x -> x.pea(-2));
        refused("of 8", Check.BEYOND, x -> x.of(8, 0));
        refused("of what 4", Check.BEYOND, x -> x.of(0, 4));
        refused("change 8", Check.BEYOND, x -> x.change(8, 0));
        refused("change -1", Check.BEYOND, x -> x.change(-1, 0));
        refused("change to 7", Check.BEYOND, x -> x.change(1, 7));
        refused("change to -1", Check.BEYOND, x -> x.change(1, -1));
        refused("back", RefusedTest::clear, Check.NONE, x -> x.back());
        refused("where 9", Check.BEYOND, x -> x.where(9));
        refused("where -1", Check.BEYOND, x -> x.where(-1));
        refused("goes 4", Check.BEYOND, x -> x.goes(4, 0));
        refused("goes behind 9", Check.BEYOND, x -> x.goes(0, 9));
    }

    private static void fullPasses() {
        Act full = x -> fill(x, 14);
        refused("pass 7", Check.BEYOND, x -> x.pass(7, 0, 1));
        refused("pass of 4", Check.BEYOND, x -> x.pass(0, 4, 1));
        refused("pass to 4", Check.BEYOND, x -> x.pass(0, 1, 4));
        refused("pass of one and the same", Check.BEYOND, x -> x.pass(0, 1, 1));
        for (int kind = 0; kind < 7; kind++) {
            int k = kind;
            refused("a 15th of kind " + k, full, Check.FULL, x -> x.pass(k, 0, 1));
        }
        refused("a 15th of kind 7", full, Check.BEYOND, x -> x.pass(7, 0, 1));
        refused("a 15th of -1", full, Check.BEYOND, x -> x.pass(0, -1, 1));
        refused("a 15th to 4", full, Check.BEYOND, x -> x.pass(0, 1, 4));
        refused("a 15th of one and the same", full, Check.BEYOND, x -> x.pass(0, 2, 2));
        refused("shuffle 0", Check.BEYOND, x -> x.shuffle(0));
        refused("shuffle 13", Check.BEYOND, x -> x.shuffle(13));
        refused("shuffle 7 behind 8", Check.FULL, x -> x.shuffle(7));
        refused("shuffle 12 behind 8", Check.FULL, x -> x.shuffle(12));
        refused("shuffle 1 behind 14", full, Check.FULL, x -> x.shuffle(1));
        refused("shuffle 13 behind 14", full, Check.BEYOND, x -> x.shuffle(13));
        refused("shuffle 0 behind 14", full, Check.BEYOND, x -> x.shuffle(0));
    }

    private static void eyes() {
        refused("eye 4", Check.BEYOND, x -> x.eye(4, 0, 1));
        refused("eye what 2", Check.BEYOND, x -> x.eye(0, 2, 1));
        refused("slip 11", Check.BEYOND, x -> x.eye(0, 0, 11));
        refused("slip -1", Check.BEYOND, x -> x.eye(0, 0, -1));
        refused("it thinks at 4", Check.BEYOND, x -> x.eye(0, 1, 4));
        refused("it thinks in the hand", Check.BEYOND, x -> x.eye(0, 1, -1));
        refused("weight of 4", Check.BEYOND, x -> x.weight(4, 0, 0));
        refused("weight behind 9", Check.BEYOND, x -> x.weight(0, 9, 0));
        refused("weight at 4", Check.BEYOND, x -> x.weight(0, 0, 4));
        refused("weight in the hand", Check.BEYOND, x -> x.weight(0, 0, -1));
        refused("guess of 4", Check.BEYOND, x -> x.guess(4));
        refused("right of 4", Check.BEYOND, x -> x.right(4));
        refused("lost of 4", Check.BEYOND, x -> x.lost(4));
        refused("never lost", x -> {
            clear(x);
            x.pea(2);
        }, Check.NONE, x -> x.lost(2));
        refused("may of 4", Check.BEYOND, x -> x.may(4));
        Act ten = x -> fill(x, 10);
        Act apart = x -> {
            clear(x);
            fill(x, 9);
        };
        Act apartTen = x -> {
            clear(x);
            fill(x, 10);
        };
        refused("both of 4", Check.BEYOND, x -> x.both(4, 0));
        refused("both with 4", Check.BEYOND, x -> x.both(0, 4));
        refused("both of one and the same", Check.BEYOND, x -> x.both(2, 2));
        refused("both behind 10", ten, Check.SIZE, x -> x.both(0, 1));
        refused("both of 4 behind 10", ten, Check.BEYOND, x -> x.both(4, 0));
        refused("both of one and the same behind 10", ten, Check.BEYOND, x -> x.both(2, 2));
        refused("nothing together", apart, Check.NONE, x -> x.both(2, 3));
        refused("nothing together behind 10", apartTen, Check.SIZE, x -> x.both(2, 3));
    }

    private static void misleading() {
        refused("watch 4", Check.BEYOND, x -> x.watch(4));
        refused("watch, no passes", RefusedTest::clear, Check.NONE, x -> x.watch(0));
        refused("watch 4, no passes", RefusedTest::clear, Check.BEYOND, x -> x.watch(4));
        refused("feint 4", Check.BEYOND, x -> x.feint(4));
        refused("feint, no passes", RefusedTest::clear, Check.NONE, x -> x.feint(0));
        refused("feint 4, no passes", RefusedTest::clear, Check.BEYOND, x -> x.feint(4));
        refused("kindFor 8", Check.BEYOND, x -> x.kindFor(0, 8));
        refused("kindFor of 4", Check.BEYOND, x -> x.kindFor(4, 0));
        refused("kindFor, no passes", RefusedTest::clear, Check.BEYOND, x -> x.kindFor(0, 0));
        for (int n = 1; n <= 4; n++) {
            int more = n;
            Act tooFew = x -> fill(x, 15 - more);
            refused("misled by a 15th of " + n, tooFew, Check.FULL, x -> x.misled(0, more, 0));
            refused("row to a 15th of " + n, tooFew, Check.FULL, x -> x.row(0, more, 0, 0));
            refused("misled of 4, a 15th", tooFew, Check.BEYOND, x -> x.misled(4, more, 0));
            refused("row of 4, a 15th", tooFew, Check.BEYOND, x -> x.row(4, more, 0, 0));
            refused("misled by kind 7, a 15th", tooFew, Check.BEYOND, x -> x.misled(0, more, 7));
            refused("row of kind 7, a 15th", tooFew, Check.BEYOND, x -> x.row(0, more, 7, 0));
            refused("row, i too great, a 15th", tooFew, Check.BEYOND, x -> x.row(0, more, 0, more));
            refused("row, i -1, a 15th", tooFew, Check.BEYOND, x -> x.row(0, more, 0, -1));
        }
        Act full = x -> fill(x, 14);
        refused("misled by 0 behind 14", full, Check.BEYOND, x -> x.misled(0, 0, 0));
        refused("misled by 5 behind 14", full, Check.BEYOND, x -> x.misled(0, 5, 0));
        refused("row of 0 behind 14", full, Check.BEYOND, x -> x.row(0, 0, 0, 0));
        refused("row of 5 behind 14", full, Check.BEYOND, x -> x.row(0, 5, 0, 0));
        refused("misled by 5", Check.BEYOND, x -> x.misled(0, 5, 0));
        refused("row of 5", Check.BEYOND, x -> x.row(0, 5, 0, 4));
    }

    private static void seen() {
        refused("feints 4", Check.BEYOND, x -> x.feints(4));
        refused("feints -2", Check.BEYOND, x -> x.feints(-2));
        refused("surely 4", Check.BEYOND, x -> x.surely(4, 0));
        refused("surely what 3", Check.BEYOND, x -> x.surely(0, 3));
        Act still = x -> {
            clear(x);
            x.pea(2);
        };
        for (int what = 0; what < 3; what++) {
            int w = what;
            refused("never so, what " + w, still, Check.NONE, x -> x.surely(1, w));
        }
        refused("never so, what 3", still, Check.BEYOND, x -> x.surely(1, 3));
        refused("never so, what -1", still, Check.BEYOND, x -> x.surely(1, -1));
        refused("orders of 8", Check.SIZE, x -> x.orders(0));
        refused("orders of 14", x -> fill(x, 14), Check.SIZE, x -> x.orders(-1));
        refused("orders of 8, to 4", Check.BEYOND, x -> x.orders(4));
        refused("orders of 8, to -2", Check.BEYOND, x -> x.orders(-2));
    }

    private static void players() {
        int[][] beyond = {{4, 0, 1}, {-1, 0, 1}, {0, 3, 1}, {0, -1, 1}, {0, 0, -1}, {0, 0, 10000}, {0, 1, 0}, {0, 1, 100},
            {0, 2, 0}, {0, 2, 10}};
        for (int[] p : beyond) {
            refused("player " + p[0] + " " + p[1] + " " + p[2], Check.BEYOND, x -> x.player(p[0], p[1], p[2]));
        }
        refused("told of 4", Check.BEYOND, x -> x.told(4, 0));
        refused("told 5", Check.BEYOND, x -> x.told(0, 5));
        refused("round of 4", Check.BEYOND, x -> x.round(4, 1));
        refused("round, win 2", Check.BEYOND, x -> x.round(0, 2));
        refused("round, win -1", Check.BEYOND, x -> x.round(0, -1));
        refused("play of 4", Check.BEYOND, x -> x.play(4, 0));
        refused("play by eye 4", Check.BEYOND, x -> x.play(0, 4));
        // 1 has lost twice, 2 has no purse.
        for (int i = 1; i <= 2; i++) {
            int left = i;
            refused("left: round of " + i, Check.STATE, x -> x.round(left, 0));
            refused("left: round of " + i + ", win", Check.STATE, x -> x.round(left, 1));
            refused("left: play of " + i, Check.STATE, x -> x.play(left, 0));
            refused("left: round of " + i + ", win 2", Check.BEYOND, x -> x.round(left, 2));
            refused("left: round of " + i + ", win -1", Check.BEYOND, x -> x.round(left, -1));
            refused("left: play of " + i + " by eye 4", Check.BEYOND, x -> x.play(left, 4));
            refused("left: play of " + i + " by eye -1", Check.BEYOND, x -> x.play(left, -1));
        }
        refused("best of 4", Check.BEYOND, x -> x.best(4, 1));
        refused("best in 0", Check.BEYOND, x -> x.best(0, 0));
        refused("best in 11, left", Check.BEYOND, x -> x.best(1, 11));
        refused("should of 4", Check.BEYOND, x -> x.should(4, 1));
        refused("should in 11", Check.BEYOND, x -> x.should(0, 11));
        refused("should in 0, left", Check.BEYOND, x -> x.should(2, 0));
        refused("richest in 0", Check.BEYOND, x -> x.richest(0));
        refused("richest in 11", Check.BEYOND, x -> x.richest(11));
        refused("now 5", Check.BEYOND, x -> x.now(5));
        refused("now -1", Check.BEYOND, x -> x.now(-1));
    }

    private static void tape() {
        refused("feed of 0", Check.BEYOND, x -> x.feed(';', 0));
        refused("feed of 5", Check.BEYOND, x -> x.feed(';', 5));
        for (int n = 1; n <= 4; n++) {
            int bytes = n;
            Act nearly = x -> Check.feed(x, " ".repeat(121 - bytes - x.count(5)));
            refused("feed a 121st of " + n, nearly, Check.FULL, x -> x.feed(';', bytes));
            refused("feed 5, nearly full", nearly, Check.BEYOND, x -> x.feed(';', 5));
            refused("feed 0, nearly full", nearly, Check.BEYOND, x -> x.feed(';', 0));
        }
    }

    private static void spots() {
        refused("hold 8", Check.BEYOND, x -> x.hold(0, 8));
        refused("hold -2", Check.BEYOND, x -> x.hold(0, -2));
        refused("spot 10", Check.BEYOND, x -> x.hold(10, 0));
        refused("spot -1", Check.BEYOND, x -> x.hold(-1, -1));
        refused("hold, no passes", RefusedTest::clear, Check.BEYOND, x -> x.hold(0, 0));
        refused("as of spot 10", Check.BEYOND, x -> x.as(10, 0));
        refused("as 7", Check.BEYOND, x -> x.as(0, 7));
        refused("nothing as 7", Check.BEYOND, x -> x.as(9, 7));
        refused("nothing as a pass", Check.MISSING, x -> x.as(9, PASS));
        refused("taken back", Check.MISSING, x -> x.as(2, LIFT));
        refused("taken back, of another kind", Check.MISSING, x -> x.as(2, QUICK));
        refused("taken back, as 7", Check.BEYOND, x -> x.as(2, 7));
        refused("a pass as a feint", Check.KIND, x -> x.as(0, FEINT));
        refused("a whirl as a drop", Check.KIND, x -> x.as(1, DROP));
    }

    private static void sheets() {
        for (int s : new int[] {-1, 4}) {
            refused("sheet " + s, Check.BEYOND, x -> x.sheet(s, 8, 1));
            refused("sheet of -1, " + s, Check.BEYOND, x -> x.sheet(s, 8, -1));
            refused("write to " + s, Check.BEYOND, x -> x.write(s, 0, 1));
            refused("load " + s, Check.BEYOND, x -> x.load(s));
            refused("judge " + s, Check.BEYOND, x -> x.judge(s));
        }
        for (int bits : new int[] {0, 8, 16, 32}) {
            refused("sheet of -1, bits " + bits, Check.SIZE, x -> x.sheet(0, bits, -1));
            refused("sheet of the least int, bits " + bits, Check.SIZE, x -> x.sheet(0, bits, Integer.MIN_VALUE));
            refused("sheet of 41, bits " + bits, Check.BEYOND, x -> x.sheet(0, bits, 41));
        }
        for (int bits : new int[] {-8, -1, 1, 7, 9, 15, 17, 24, 31, 33, 64}) {
            refused("bits " + bits, Check.BEYOND, x -> x.sheet(1, bits, 3));
            refused("-1, bits " + bits, Check.BEYOND, x -> x.sheet(1, bits, -1));
            refused("41, bits " + bits, Check.BEYOND, x -> x.sheet(1, bits, 41));
        }
        refused("write number 5", Check.BEYOND, x -> x.write(0, 5, 1));
        refused("write number -1", Check.BEYOND, x -> x.write(0, -1, 1));
        refused("write to a missing one", Check.MISSING, x -> x.write(3, 0, 1));
        refused("write number -1 to a missing one", Check.MISSING, x -> x.write(3, -1, 1));
        refused("write number 40 to a missing one", Check.MISSING, x -> x.write(3, 40, 1));
        refused("load a missing one", Check.MISSING, x -> x.load(3));
        refused("judge by a missing one", Check.MISSING, x -> x.judge(3));
        refused("write to one that is missing then", x -> x.sheet(0, 0, 5), Check.MISSING, x -> x.write(0, 0, 1));
        refused("load one that is missing then", x -> x.sheet(0, 0, 5), Check.MISSING, x -> x.load(0));
        refused("judge by one that is missing then", x -> x.sheet(0, 0, 5), Check.MISSING, x -> x.judge(0));
    }

    private static void copies() {
        for (int s : new int[] {-1, 4}) {
            refused("copy of " + s, Check.BEYOND, x -> x.copy(s, 0, 0, 0, 1));
            refused("copy to " + s, Check.BEYOND, x -> x.copy(0, 0, s, 0, 1));
            refused("copy of " + s + " to a missing one", Check.BEYOND, x -> x.copy(s, 0, 3, 0, 1));
            refused("copy of a missing one to " + s, Check.BEYOND, x -> x.copy(3, 0, s, 0, 1));
        }
        refused("copy of a missing one", Check.MISSING, x -> x.copy(3, 0, 0, 0, 1));
        refused("copy to a missing one", Check.MISSING, x -> x.copy(0, 0, 3, 0, 1));
        refused("copy of a missing one to itself", Check.MISSING, x -> x.copy(3, 0, 3, 0, 0));
        refused("copy of -1 to a missing one", Check.MISSING, x -> x.copy(0, 0, 3, 0, -1));
        refused("copy of 8 bits to 16", Check.KIND, x -> x.copy(0, 0, 1, 0, 1));
        refused("copy of 32 bits to 16", Check.KIND, x -> x.copy(2, 0, 1, 0, 1));
        refused("copy of none to other bits", Check.KIND, x -> x.copy(0, 0, 1, 0, 0));
        refused("copy of 6 to other bits", Check.KIND, x -> x.copy(0, 0, 1, 0, 6));
        refused("copy from -1 to other bits", Check.KIND, x -> x.copy(0, -1, 1, 0, 1));
        Act three = x -> lay(x, 1, 8, 6, 5, 4);
        int[][] beyond = {{-1, 0, 1}, {0, -1, 1}, {0, 0, -1}, {5, 0, 1}, {0, 3, 1}, {3, 0, 3}, {0, 1, 3}, {0, 0, 4}, {6, 0, 0},
            {0, 4, 0}, {-1, 0, 0}, {0, -1, 0}, {1, 0, Integer.MAX_VALUE}, {Integer.MAX_VALUE, 0, 1}, {0, Integer.MAX_VALUE, 1}};
        for (int[] c : beyond) {
            refused("copy " + c[0] + " " + c[1] + " " + c[2], three, Check.BEYOND, x -> x.copy(0, c[0], 1, c[1], c[2]));
        }
    }

    private static void images() {
        refused("undo of nothing", x -> x.tear(), Check.NONE, x -> x.undo());
        refused("count 8", Check.BEYOND, x -> x.count(8));
        refused("count -1", Check.BEYOND, x -> x.count(-1));
        refused("status 7", Check.BEYOND, x -> x.status(7));
        refused("status -2", Check.BEYOND, x -> x.status(-2));
    }

    /** A text with a fault does what wipe() does, and is no finding. */
    private static void faults() {
        String[] texts = {"", ";", "pea 0;pea 4", "pass 0 1;pass 1 1", "pass 0 1;pass 1 2;pass 2 3;lift 0 1;lift 1 2;lift 2 3;drop",
            "eye 0 slip 9;eye 1 slip 11", "player 0 purse 1 stake 2 bears 3;player", "pea hand;pea 2;"};
        for (String text : texts) {
            CupsAndPea x = rich();
            CupsAndPea twin = rich();
            int found = x.status(-1);
            Check.due("[" + text + "] has a fault", 1, Check.read(x, text) < 0 ? 1 : 0);
            Check.due("[" + text + "] is no finding", found, x.status(-1));
            twin.wipe();
            Check.same("[" + text + "] changes nothing", Probe.all(twin), Probe.all(x));
        }
    }
}

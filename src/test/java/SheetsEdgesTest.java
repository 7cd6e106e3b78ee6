/** Promises 37, 38 and 40 to 46 where the document names an edge: 120 bytes, ten spots, sheets of 0, 1 and 40 numbers. */
final class SheetsEdgesTest implements Kinds {
    private static final int[] BITS = {8, 16, 32};

    public static void main(String[] args) {
        tapeToTheLast();
        lowestBytes();
        wipes();
        spots();
        spotsTakenBack();
        kindsUnderKinds();
        laid();
        lowestBits();
        manyNumbers();
        copies();
        overItself();
        loads();
        judges();
        Check.end();
    }

    /** n bytes come where there is room for them all, and none of them where there is not. */
    private static void tapeToTheLast() {
        for (int n = 1; n <= 4; n++) {
            CupsAndPea x = new CupsAndPea();
            for (int had = 0; had + n <= 120; had += n) {
                Check.due("so many", had + n, x.feed(0, n));
            }
            int rest = x.count(5);
            for (int more = 121 - rest; more <= 4; more++) {
                Check.due("no room for " + more + " behind " + rest, Check.FULL, x.feed(0, more));
            }
            Check.due("as many as there were", rest, x.count(5));
            for (int room = 0; room <= 3; room++) {
                x.wipe();
                Check.feed(x, " ".repeat(120 - room));
                Check.due("room for " + room, room < n ? Check.FULL : 120 - room + n, x.feed(0, n));
            }
        }
    }

    /** The n lowest bytes, the highest of these first; of the others nothing is seen. */
    private static void lowestBytes() {
        int pea1 = 'p' << 24 | 'e' << 16 | 'a' << 8 | '1';
        for (int n = 1; n <= 4; n++) {
            CupsAndPea x = new CupsAndPea();
            Check.feed(x, "pea1".substring(0, 4 - n));
            int above = n == 4 ? 0 : -1 << 8 * n;
            x.feed(pea1 & ~above | above, n);
            Check.due("the " + n + " lowest", 1, x.text());
            Check.due("so it begins", 1, x.now(3));
        }
        CupsAndPea y = new CupsAndPea();
        Check.due("the least int", 4, y.feed(Integer.MIN_VALUE, 4));
        Check.due("begins with a byte of 128", -1, y.text());
        y.feed(Integer.MIN_VALUE | ' ', 1);
        Check.due("only its lowest byte", -1 - 1, y.text());
    }

    private static void wipes() {
        CupsAndPea x = new CupsAndPea();
        Check.due("none", 0, x.wipe());
        x.feed('p', 1);
        Check.due("one", 1, x.wipe());
        Check.due("none any more", 0, x.wipe());
        Check.feed(x, "pea 1;".repeat(20));
        Check.due("all", 120, x.wipe());
        Check.due("there is room again", 4, x.feed(0, 4));
        Check.due("what was there is gone", 4, x.wipe());
        Check.feed(x, "pea 2");
        Check.due("a text from the begin", 1, x.text());
        Check.due("it is empty then", 0, x.wipe());
        Check.feed(x, "pea");
        x.text();
        Check.due("with a fault, too", 0, x.wipe());
    }

    private static void spots() {
        CupsAndPea x = new CupsAndPea();
        for (int spot = 0; spot < 10; spot++) {
            Check.due("nothing at first", Check.MISSING, x.as(spot, PASS));
            Check.due("nothing may be held", 1, x.hold(spot, -1));
            Check.due("no pass is there", Check.BEYOND, x.hold(spot, 0));
        }
        Check.due("none", 0, x.count(7));
        x.shuffle(12);
        x.pass(QUICK, 0, 1);
        x.pass(WHIRL, 0, 1);
        for (int spot = 0; spot < 10; spot++) {
            Check.due("the last", 1, x.hold(spot, 13));
            Check.due("so many", spot + 1, x.count(7));
        }
        for (int spot = 0; spot < 10; spot++) {
            Check.due("the same one", 13, x.as(spot, FEINT));
            Check.due("another one", 1, x.hold(spot, 12));
            Check.due("held", 12, x.as(spot, SLOW));
            Check.due("as many", 10, x.count(7));
        }
        for (int spot = 9; spot >= 0; spot--) {
            Check.due("nothing", 1, x.hold(spot, -1));
            Check.due("nothing is held", Check.MISSING, x.as(spot, PASS));
            Check.due("so many", spot, x.count(7));
        }
    }

    private static void spotsTakenBack() {
        CupsAndPea x = Check.with(3, DROP, 0, 1, QUICK, 1, 2);
        x.hold(0, 0);
        x.hold(9, 1);
        Check.due("there", 1, x.as(9, QUICK));
        x.back();
        Check.due("taken back", Check.MISSING, x.as(9, QUICK));
        Check.due("the other one is there", 0, x.as(0, DROP));
        x.back();
        Check.due("taken back as well", Check.MISSING, x.as(0, DROP));
        Check.due("none can be held", Check.BEYOND, x.hold(0, 0));
        Check.due("both hold something", 2, x.count(7));
        x.pass(DROP, 0, 1);
        Check.due("one is there", 0, x.as(0, DROP));
        Check.due("one isn't", Check.MISSING, x.as(9, PASS));
        Check.due("of another kind", Check.KIND, x.as(0, SLOW));
    }

    /** The kinds above each kind; the others it isn't of. A kind that is changed counts as it is then. */
    private static void kindsUnderKinds() {
        String[] of = {"0", "01", "02", "023", "014", "05", "056"};
        CupsAndPea x = Check.with(3, PASS, 0, 1);
        x.hold(4, 0);
        for (int kind = 0; kind < 7; kind++) {
            x.change(0, kind);
            for (int as = 0; as < 7; as++) {
                Check.due(kind + " as " + as, of[kind].indexOf('0' + as) >= 0 ? 0 : Check.KIND, x.as(4, as));
            }
            Check.due(kind + " as 7", Check.BEYOND, x.as(4, 7));
            Check.due(kind + " as -1", Check.BEYOND, x.as(4, -1));
        }
        x.sheet(0, 8, 1);
        x.write(0, 0, DROP);
        x.load(0);
        Check.due("as it was loaded", 0, x.as(4, LIFT));
    }

    private static void laid() {
        CupsAndPea x = new CupsAndPea();
        for (int s = 0; s < 4; s++) {
            Check.due("missing at first", Check.MISSING, x.load(s));
            Check.due("missing at first", Check.MISSING, x.judge(s));
            Check.due("missing at first", Check.MISSING, x.write(s, 0, 0));
            Check.due("missing at first", Check.MISSING, x.copy(s, 0, s, 0, 0));
            Check.due("missing may be missing", 0, x.sheet(s, 0, 40));
        }
        for (int bits : BITS) {
            for (int n : new int[] {0, 1, 40}) {
                for (int s = 0; s < 4; s++) {
                    Check.due("so many", n, x.sheet(s, bits, n));
                    Check.due("the last", n == 0 ? Check.BEYOND : 1, x.write(s, n - 1, 3));
                    Check.due("behind the last", Check.BEYOND, x.write(s, n, 3));
                    Check.due("anew", n, x.sheet(s, bits, n));
                    Check.due("all are there", n, x.copy(s, 0, s, 0, n));
                    Check.due("not one more", Check.BEYOND, x.copy(s, 0, s, 0, n + 1));
                    // The last one comes to the first place, and is judged there: 0, as the pea begins.
                    Check.due("the last is 0", n == 0 ? Check.BEYOND : 1, x.copy(s, n - 1, s, 0, 1));
                    Check.due("it is 0", 0, x.judge(s));
                }
            }
        }
        x.sheet(1, 8, 40);
        x.write(1, 39, 5);
        Check.due("fewer", 2, x.sheet(1, 8, 2));
        Check.due("no third", Check.BEYOND, x.write(1, 2, 1));
        Check.due("forty again", 40, x.sheet(1, 8, 40));
        x.copy(1, 39, 1, 0, 1);
        Check.due("the last is 0 again", 0, x.judge(1));
        Check.due("missing", 0, x.sheet(1, 0, 7));
        Check.due("so it is", Check.MISSING, x.write(1, 0, 1));
        Check.due("another is not", 1, x.write(2, 0, 1));
    }

    /** Whether a number, written on bits, is told as the place where the pea is (-1: in the hand), or loaded as a kind. */
    private static void bits(int bits, int v, int due) {
        CupsAndPea x = Check.with(6, PASS, 0, 1);
        x.sheet(0, bits, 1);
        Check.due("write", 1, x.write(0, 0, v));
        for (int place = -1; place < 6; place++) {
            x.pea(place);
            Check.due(v + " on " + bits + " bits as " + place, place == due ? 0 : 1, x.judge(0));
        }
        Check.due(v + " on " + bits + " bits as a kind", due >= 0 && due <= 6 ? 1 : 0, x.load(0));
        Check.due("the kind", due >= 0 && due <= 6 ? due : PASS, x.of(0, 0));
    }

    private static void lowestBits() {
        int other = 99;
        int[][] on8 = {{0, 0}, {5, 5}, {6, 6}, {7, 7}, {-1, -1}, {255, -1}, {256, 0}, {257, 1}, {511, -1}, {-256, 0}, {-255, 1},
            {127, other}, {128, other}, {254, other}, {261, 5}, {65535, -1}, {65536, 0}, {Integer.MAX_VALUE, -1},
            {Integer.MIN_VALUE, 0}};
        int[][] on16 = {{0, 0}, {6, 6}, {7, 7}, {-1, -1}, {255, other}, {256, other}, {32767, other}, {32768, other}, {65535, -1},
            {65536, 0}, {65537, 1}, {-65536, 0}, {-65535, 1}, {131071, -1}, {Integer.MAX_VALUE, -1}, {Integer.MIN_VALUE, 0}};
        int[][] on32 = {{0, 0}, {6, 6}, {7, 7}, {-1, -1}, {255, other}, {256, other}, {65535, other}, {65536, other}, {65537, other},
            {-65536, other}, {Integer.MAX_VALUE, other}, {Integer.MIN_VALUE, other}};
        int[][][] all = {on8, on16, on32};
        for (int i = 0; i < 3; i++) {
            for (int[] v : all[i]) {
                bits(BITS[i], v[0], v[1]);
            }
        }
    }

    private static void lay(CupsAndPea x, int s, int bits, int... numbers) {
        x.sheet(s, bits, numbers.length);
        for (int i = 0; i < numbers.length; i++) {
            Check.due("write", 1, x.write(s, i, numbers[i]));
        }
    }

    private static CupsAndPea fourteen() {
        CupsAndPea x = new CupsAndPea();
        for (int i = 0; i < 14; i++) {
            x.pass(PASS, 0, 1);
        }
        return x;
    }

    private static void kinds(String what, CupsAndPea x, int s, int... due) {
        Check.due(what + ": how many", due.length, x.load(s));
        for (int i = 0; i < due.length; i++) {
            Check.due(what + " at " + i, due[i], x.of(i, 0));
        }
    }

    /** Each of forty numbers is one of its own, on each sheet. */
    private static void manyNumbers() {
        CupsAndPea x = fourteen();
        for (int s = 0; s < 4; s++) {
            x.sheet(s, BITS[s % 3], 40);
            for (int i = 0; i < 40; i++) {
                Check.due("write", 1, x.write(s, i, (i + s) % 7));
            }
        }
        for (int s = 0; s < 4; s++) {
            for (int from : new int[] {26, 13, 0}) {
                Check.due("fourteen from " + from, 14, x.copy(s, from, s, 0, 14));
                Check.due("so many kinds", 14, x.load(s));
                for (int i = 0; i < 14; i++) {
                    Check.due("number " + (from + i), (from + i + s) % 7, x.of(i, 0));
                }
                for (int i = 0; i < 40; i++) {
                    x.write(s, i, (i + s) % 7);
                }
            }
        }
    }

    private static void copies() {
        for (int bits : BITS) {
            CupsAndPea x = fourteen();
            lay(x, 0, bits, 1, 2, 3, 4);
            lay(x, 3, bits, 5, 6);
            Check.due("none", 0, x.copy(0, 0, 3, 0, 0));
            Check.due("none from the end", 0, x.copy(0, 4, 3, 2, 0));
            Check.due("none from behind the end", Check.BEYOND, x.copy(0, 5, 3, 0, 0));
            Check.due("none to behind the end", Check.BEYOND, x.copy(0, 0, 3, 3, 0));
            kinds("none came", x, 3, 5, 6);
            Check.due("one", 1, x.copy(0, 3, 3, 1, 1));
            kinds("the last to the last", x, 3, 5, 4);
            Check.due("all", 2, x.copy(3, 0, 0, 2, 2));
            kinds("to the end", x, 0, 1, 2, 5, 4);
            Check.due("more than it has", Check.BEYOND, x.copy(3, 0, 0, 0, 3));
            Check.due("more than there is room", Check.BEYOND, x.copy(3, 0, 0, 3, 2));
            Check.due("more than are left", Check.BEYOND, x.copy(0, 3, 3, 0, 2));
            kinds("nothing came", x, 0, 1, 2, 5, 4);
            x.sheet(1, bits, 0);
            Check.due("none of none", 0, x.copy(1, 0, 1, 0, 0));
            Check.due("one of none", Check.BEYOND, x.copy(1, 0, 0, 0, 1));
            Check.due("one to none", Check.BEYOND, x.copy(0, 0, 1, 0, 1));
            x.sheet(1, bits, 40);
            x.sheet(2, bits, 40);
            x.write(1, 39, 6);
            Check.due("forty", 40, x.copy(1, 0, 2, 0, 40));
            Check.due("the last of them", 1, x.copy(2, 39, 0, 0, 1));
            kinds("it came", x, 0, 6, 2, 5, 4);
        }
        for (int one : BITS) {
            for (int other : BITS) {
                CupsAndPea x = new CupsAndPea();
                x.sheet(0, one, 1);
                x.sheet(1, other, 1);
                Check.due(one + " bits to " + other, one == other ? 1 : Check.KIND, x.copy(0, 0, 1, 0, 1));
            }
        }
    }

    /** On one and the same sheet, up and down: as they all were. */
    private static void overItself() {
        for (int bits : BITS) {
            for (int from = 0; from <= 3; from++) {
                for (int to = 0; to <= 3; to++) {
                    CupsAndPea x = fourteen();
                    lay(x, 2, bits, 0, 1, 2, 3, 4, 5, 6);
                    Check.due("four", 4, x.copy(2, from, 2, to, 4));
                    int[] due = {0, 1, 2, 3, 4, 5, 6};
                    for (int i = 0; i < 4; i++) {
                        due[to + i] = from + i;
                    }
                    kinds("from " + from + " to " + to, x, 2, due);
                }
            }
        }
    }

    private static void loads() {
        for (int passes : new int[] {0, 1, 13, 14}) {
            for (int n : new int[] {0, 1, 13, 14, 40}) {
                CupsAndPea x = new CupsAndPea();
                for (int i = 0; i < passes; i++) {
                    x.pass(WHIRL, 0, 1);
                }
                x.sheet(0, 8, n);
                Check.due("of " + n + " to " + passes, Math.min(n, passes), x.load(0));
                for (int i = 0; i < passes; i++) {
                    Check.due("kind of " + i, i < n ? PASS : WHIRL, x.of(i, 0));
                }
            }
        }
        for (int wrong : new int[] {-1, 7, 127, -128}) {
            for (int at = 0; at <= 2; at++) {
                CupsAndPea x = Check.with(3, WHIRL, 0, 1, WHIRL, 0, 1, WHIRL, 0, 1);
                lay(x, 0, 8, 6, 0, 6);
                x.write(0, at, wrong);
                Check.due("to the first that is none", at, x.load(0));
                for (int i = 0; i < 3; i++) {
                    Check.due("kind of " + i, i >= at ? WHIRL : i == 0 ? QUICK : PASS, x.of(i, 0));
                }
            }
        }
    }

    private static void judges() {
        CupsAndPea x = fourteen();
        for (int s = 0; s < 2; s++) {
            x.sheet(s, 8, s == 0 ? 15 : 40);
            for (int i = 0; i < 15; i++) {
                x.write(s, i, i % 2);
            }
            Check.due("all do", 0, x.judge(s));
        }
        // Behind the fourteenth pass no number is asked for.
        x.write(1, 15, 9);
        Check.due("as far as there are passes", 0, x.judge(1));
        x.write(1, 14, 1);
        Check.due("the last that is asked for", 15, x.judge(1));
        x.back();
        Check.due("it isn't asked for", 0, x.judge(1));
        for (int i = 13; i >= 0; i--) {
            x.write(0, i, 2);
            Check.due("the first that doesn't", i + 1, x.judge(0));
        }
        CupsAndPea none = new CupsAndPea();
        lay(none, 3, 16, 0, 9);
        Check.due("no passes", 0, none.judge(3));
        none.pea(-1);
        Check.due("in the hand", 1, none.judge(3));
        none.write(3, 0, -1);
        Check.due("told so", 0, none.judge(3));
        none.pea(2);
        Check.due("not in the hand", 1, none.judge(3));
        none.sheet(3, 16, 0);
        Check.due("none", 0, none.judge(3));
    }
}

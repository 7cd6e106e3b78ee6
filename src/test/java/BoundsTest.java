import java.util.function.Supplier;

/**
 * The bounds of each argument of each call: with the last value that is still allowed, on both sides, a call isn't BEYOND;
 * with the first one that isn't allowed it is, and so it is with the least and the greatest int.
 */
final class BoundsTest {
    private static final int NO_LEAST = 0;
    private static final int NO_MOST = -1;

    private interface Call {
        long of(CupsAndPea x, int[] a);
    }

    public static void main(String[] args) {
        for (int cups = 3; cups <= 6; cups++) {
            for (int size : new int[] {0, 1, 9, 14}) {
                passes(cups, size);
                eyes(cups, size);
                misleading(cups, size);
                seen(cups, size);
                spots(cups, size);
            }
        }
        cups();
        players(false);
        players(true);
        draws();
        tape();
        sheets();
        counts();
        Check.end();
    }

    /** So many cups, and passes of all kinds. */
    private static CupsAndPea table(int cups, int size) {
        CupsAndPea x = new CupsAndPea();
        x.cups(cups);
        for (int i = 0; i < size; i++) {
            x.pass(i % 7, i % cups, (i + 1) % cups);
        }
        return x;
    }

    /** Argument i, the others being as given, may be least to most, and nothing else; least above most: nothing. */
    private static void bound(String name, Supplier<CupsAndPea> make, Call call, int[] others, int i, int least, int most) {
        for (int v = least; v <= most; v++) {
            // What lies between is looked at where it is little.
            if (v == least || v == most || most - least <= 20) {
                allowed(name, make.get(), call, others, i, v);
            }
        }
        for (int v : new int[] {least - 1, most + 1, Integer.MIN_VALUE, Integer.MAX_VALUE}) {
            refused(name, make.get(), call, others, i, v);
        }
    }

    private static void allowed(String name, CupsAndPea x, Call call, int[] others, int i, int v) {
        int[] a = others.clone();
        a[i] = v;
        Check.due(name + ": argument " + i + " may be " + v, 0, call.of(x, a) == Check.BEYOND ? 1 : 0);
        Check.due(name + ": so nothing is BEYOND", 0, x.status(0));
    }

    private static void refused(String name, CupsAndPea x, Call call, int[] others, int i, int v) {
        int[] a = others.clone();
        a[i] = v;
        Check.due(name + ": argument " + i + " is " + v, Check.BEYOND, call.of(x, a));
        Check.due(name + ": one is BEYOND", 1, x.status(0));
        Check.due(name + ": nothing else is told", 1, x.status(-1));
    }

    private static void cups() {
        bound("cups", CupsAndPea::new, (x, a) -> x.cups(a[0]), new int[1], 0, 3, 6);
        bound("cups, with a pass", () -> table(3, 1), (x, a) -> x.cups(a[0]), new int[1], 0, 3, 6);
    }

    private static void passes(int cups, int size) {
        Supplier<CupsAndPea> make = () -> table(cups, size);
        bound("pea", make, (x, a) -> x.pea(a[0]), new int[1], 0, -1, cups - 1);
        Call pass = (x, a) -> x.pass(a[0], a[1], a[2]);
        bound("pass", make, pass, new int[] {0, 0, 1}, 0, 0, 6);
        for (int other = 0; other < cups; other++) {
            // On both sides of the other place, which is one and the same.
            bound("pass", make, pass, new int[] {0, 0, other}, 1, 0, other - 1);
            bound("pass", make, pass, new int[] {0, 0, other}, 1, other + 1, cups - 1);
            bound("pass", make, pass, new int[] {0, other, 0}, 2, 0, other - 1);
            bound("pass", make, pass, new int[] {0, other, 0}, 2, other + 1, cups - 1);
        }
        Call of = (x, a) -> x.of(a[0], a[1]);
        bound("of", make, of, new int[2], 0, 0, size - 1);
        Call change = (x, a) -> x.change(a[0], a[1]);
        bound("change", make, change, new int[2], 0, 0, size - 1);
        if (size > 0) {
            bound("of the last", make, of, new int[] {size - 1, 0}, 1, 0, 3);
            bound("change the last", make, change, new int[] {size - 1, 0}, 1, 0, 6);
        }
        bound("where", make, (x, a) -> x.where(a[0]), new int[1], 0, 0, size);
        Call goes = (x, a) -> x.goes(a[0], a[1]);
        bound("goes", make, goes, new int[2], 0, 0, cups - 1);
        bound("goes", make, goes, new int[2], 1, 0, size);
    }

    private static void eyes(int cups, int size) {
        Supplier<CupsAndPea> make = () -> table(cups, size);
        Call eye = (x, a) -> x.eye(a[0], a[1], a[2]);
        bound("eye", make, eye, new int[3], 0, 0, 3);
        bound("eye", make, eye, new int[3], 1, 0, 1);
        bound("slip", make, eye, new int[] {3, 0, 0}, 2, 0, 10);
        bound("where it thinks", make, eye, new int[] {3, 1, 0}, 2, 0, cups - 1);
        Call weight = (x, a) -> x.weight(a[0], a[1], a[2]);
        bound("weight", make, weight, new int[3], 0, 0, 3);
        bound("weight", make, weight, new int[3], 1, 0, size);
        bound("weight", make, weight, new int[] {0, size, 0}, 2, 0, cups - 1);
        bound("guess", make, (x, a) -> x.guess(a[0]), new int[1], 0, 0, 3);
        bound("right", make, (x, a) -> x.right(a[0]), new int[1], 0, 0, 3);
        bound("lost", make, (x, a) -> x.lost(a[0]), new int[1], 0, 0, 3);
        Call both = (x, a) -> x.both(a[0], a[1]);
        bound("both, one", make, both, new int[] {0, 3}, 0, 0, 2);
        bound("both, one", make, both, new int[] {0, 0}, 0, 1, 3);
        bound("both, other", make, both, new int[] {3, 0}, 1, 0, 2);
        bound("both, other", make, both, new int[] {0, 0}, 1, 1, 3);
        for (int same = 0; same < 4; same++) {
            refused("both, one and the same", make.get(), both, new int[] {same, 0}, 1, same);
        }
        bound("may", make, (x, a) -> x.may(a[0]), new int[1], 0, 0, 3);
    }

    private static void misleading(int cups, int size) {
        Supplier<CupsAndPea> make = () -> table(cups, size);
        bound("watch", make, (x, a) -> x.watch(a[0]), new int[1], 0, 0, 3);
        bound("feint", make, (x, a) -> x.feint(a[0]), new int[1], 0, 0, 3);
        Call kindFor = (x, a) -> x.kindFor(a[0], a[1]);
        bound("kindFor", make, kindFor, new int[2], 1, 0, size - 1);
        if (size > 0) {
            bound("kindFor", make, kindFor, new int[] {0, size - 1}, 0, 0, 3);
        }
        Call misled = (x, a) -> x.misled(a[0], a[1], a[2]);
        bound("misled", make, misled, new int[] {0, 1, 0}, 0, 0, 3);
        bound("misled", make, misled, new int[] {0, 0, 1}, 1, 1, 4);
        bound("misled", make, misled, new int[] {0, 1, 0}, 2, 0, 6);
        Call row = (x, a) -> x.row(a[0], a[1], a[2], a[3]);
        bound("row", make, row, new int[] {0, 1, 0, 0}, 0, 0, 3);
        bound("row", make, row, new int[] {0, 0, 1, 0}, 1, 1, 4);
        bound("row", make, row, new int[] {0, 1, 0, 0}, 2, 0, 6);
        for (int n = 1; n <= 4; n++) {
            bound("row of " + n, make, row, new int[] {0, n, 1, 0}, 3, 0, n - 1);
        }
        bound("row of 0", make, row, new int[] {0, 0, 1, 0}, 3, NO_LEAST, NO_MOST);
    }

    private static void seen(int cups, int size) {
        Supplier<CupsAndPea> make = () -> table(cups, size);
        bound("feints", make, (x, a) -> x.feints(a[0]), new int[1], 0, -1, cups - 1);
        Call surely = (x, a) -> x.surely(a[0], a[1]);
        bound("surely", make, surely, new int[2], 0, -1, cups - 1);
        bound("surely", make, surely, new int[2], 1, 0, 2);
        bound("orders", make, (x, a) -> x.orders(a[0]), new int[1], 0, -1, cups - 1);
    }

    private static void players(boolean left) {
        Supplier<CupsAndPea> make = () -> {
            CupsAndPea x = new CupsAndPea();
            for (int i = 0; left && i < 4; i++) {
                x.player(i, 0, 0);
            }
            return x;
        };
        Call player = (x, a) -> x.player(a[0], a[1], a[2]);
        bound("player", make, player, new int[] {0, 0, 1}, 0, 0, 3);
        bound("player", make, player, new int[] {0, 0, 1}, 1, 0, 2);
        bound("purse", make, player, new int[] {3, 0, 0}, 2, 0, 9999);
        bound("stake", make, player, new int[] {3, 1, 0}, 2, 1, 99);
        bound("bears", make, player, new int[] {3, 2, 0}, 2, 1, 9);
        Call told = (x, a) -> x.told(a[0], a[1]);
        bound("told", make, told, new int[2], 0, 0, 3);
        bound("told", make, told, new int[] {3, 0}, 1, 0, 4);
        Call round = (x, a) -> x.round(a[0], a[1]);
        bound("round", make, round, new int[2], 0, 0, 3);
        bound("round", make, round, new int[] {3, 0}, 1, 0, 1);
        Call play = (x, a) -> x.play(a[0], a[1]);
        bound("play", make, play, new int[2], 0, 0, 3);
        bound("play", make, play, new int[] {3, 0}, 1, 0, 3);
        Call best = (x, a) -> x.best(a[0], a[1]);
        bound("best", make, best, new int[] {0, 1}, 0, 0, 3);
        bound("best", make, best, new int[] {3, 0}, 1, 1, 10);
        Call should = (x, a) -> x.should(a[0], a[1]);
        bound("should", make, should, new int[] {0, 1}, 0, 0, 3);
        bound("should", make, should, new int[] {3, 0}, 1, 1, 10);
        bound("richest", make, (x, a) -> x.richest(a[0]), new int[1], 0, 1, 10);
        bound("now", make, (x, a) -> x.now(a[0]), new int[1], 0, 0, 4);
    }

    private static void draws() {
        Call shuffle = (x, a) -> x.shuffle(a[0]);
        for (int size : new int[] {0, 2, 3, 14}) {
            bound("shuffle behind " + size, () -> table(3, size), shuffle, new int[1], 0, 1, 12);
        }
    }

    private static void tape() {
        Supplier<CupsAndPea> full = () -> {
            CupsAndPea x = new CupsAndPea();
            for (int i = 0; i < 30; i++) {
                x.feed(0, 4);
            }
            return x;
        };
        Call feed = (x, a) -> x.feed(a[0], a[1]);
        bound("feed", CupsAndPea::new, feed, new int[2], 1, 1, 4);
        bound("feed a full tape", full, feed, new int[2], 1, 1, 4);
    }

    private static void spots(int cups, int size) {
        Supplier<CupsAndPea> make = () -> table(cups, size);
        Call hold = (x, a) -> x.hold(a[0], a[1]);
        bound("hold nothing", make, hold, new int[] {0, -1}, 0, 0, 9);
        bound("hold", make, hold, new int[] {9, 0}, 1, -1, size - 1);
        Call as = (x, a) -> x.as(a[0], a[1]);
        bound("as", make, as, new int[2], 0, 0, 9);
        bound("as", make, as, new int[] {9, 0}, 1, 0, 6);
    }

    /** All four sheets, of so many numbers. */
    private static CupsAndPea withSheets(int bits, int n) {
        CupsAndPea x = new CupsAndPea();
        for (int s = 0; s < 4; s++) {
            x.sheet(s, bits, n);
        }
        return x;
    }

    private static void sheets() {
        Call sheet = (x, a) -> x.sheet(a[0], a[1], a[2]);
        for (int bits : new int[] {0, 8, 16, 32}) {
            bound("sheet", CupsAndPea::new, sheet, new int[] {0, bits, 0}, 0, 0, 3);
            bound("sheet", CupsAndPea::new, sheet, new int[] {0, 0, 0}, 1, bits, bits);
            for (int n = 0; n <= 41; n++) {
                int answer = n > 40 ? Check.BEYOND : bits == 0 ? 0 : n;
                Check.due("sheet of " + bits + " bits, " + n, answer, new CupsAndPea().sheet(3, bits, n));
            }
            refused("sheet of very many", new CupsAndPea(), sheet, new int[] {3, bits, 0}, 2, Integer.MAX_VALUE);
        }
        for (int n : new int[] {0, 1, 39, 40}) {
            numbers(n);
        }
        for (int bits : new int[] {0, 8, 16, 32}) {
            Supplier<CupsAndPea> make = () -> withSheets(bits, 2);
            bound("write", make, (x, a) -> x.write(a[0], 0, a[1]), new int[2], 0, 0, 3);
            bound("copy from", make, (x, a) -> x.copy(a[0], 0, 0, 0, 1), new int[1], 0, 0, 3);
            bound("copy to", make, (x, a) -> x.copy(0, 0, a[0], 0, 1), new int[1], 0, 0, 3);
            bound("load", make, (x, a) -> x.load(a[0]), new int[1], 0, 0, 3);
            bound("judge", make, (x, a) -> x.judge(a[0]), new int[1], 0, 0, 3);
        }
    }

    /** What may be written and copied on sheets of n numbers. */
    private static void numbers(int n) {
        for (int bits : new int[] {8, 16, 32}) {
            Supplier<CupsAndPea> make = () -> withSheets(bits, n);
            bound("number of " + n, make, (x, a) -> x.write(3, a[0], 1), new int[1], 0, 0, n - 1);
            Call copy = (x, a) -> x.copy(0, a[0], 3, a[1], a[2]);
            for (int some = 0; some <= n; some += n > 3 ? n / 3 : 1) {
                bound("from, of " + n, make, copy, new int[] {0, 0, some}, 0, 0, n - some);
                bound("to, of " + n, make, copy, new int[] {0, 0, some}, 1, 0, n - some);
                bound("so many, from " + some, make, copy, new int[] {some, 0, 0}, 2, 0, n - some);
                bound("so many, to " + some, make, copy, new int[] {0, some, 0}, 2, 0, n - some);
            }
        }
    }

    private static void counts() {
        bound("count", CupsAndPea::new, (x, a) -> x.count(a[0]), new int[1], 0, 0, 7);
        bound("status", CupsAndPea::new, (x, a) -> x.status(a[0]), new int[1], 0, -1, 6);
    }
}

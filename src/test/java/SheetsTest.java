/** Promises 40 to 46: spots and sheets. */
final class SheetsTest implements Kinds {
    public static void main(String[] args) {
        hold();
        asKinds();
        asMissing();
        sheet();
        write();
        copy();
        copyRefused();
        load();
        judge();
        Check.end();
    }

    private static void hold() {
        CupsAndPea x = Check.with(3, PASS, 0, 1, FEINT, 0, 1);
        Check.due("hold", 1, x.hold(0, 1));
        Check.due("hold", 1, x.hold(9, 0));
        Check.due("held", 1, x.as(0, PASS));
        Check.due("held", 0, x.as(9, PASS));
        Check.due("two", 2, x.count(7));
        Check.due("spot 10", Check.BEYOND, x.hold(10, 0));
        Check.due("spot -1", Check.BEYOND, x.hold(-1, 0));
        Check.due("pass 2", Check.BEYOND, x.hold(0, 2));
        Check.due("pass -2", Check.BEYOND, x.hold(0, -2));
        for (int wild : Check.WILD) {
            Check.due("wild spot", Check.BEYOND, x.hold(wild, 0));
            Check.due("wild pass", Check.BEYOND, x.hold(0, wild));
        }
        Check.due("still held", 1, x.as(0, PASS));
        Check.due("hold nothing", 1, x.hold(0, -1));
        Check.due("nothing", Check.MISSING, x.as(0, PASS));
        Check.due("nothing where nothing was", 1, x.hold(5, -1));
        Check.due("one", 1, x.count(7));
    }

    private static void asKinds() {
        boolean[][] isOf = new boolean[7][7];
        int[][] above = {{PASS}, {FEINT, PASS}, {LIFT, PASS}, {DROP, LIFT, PASS}, {WHIRL, FEINT, PASS}, {SLOW, PASS},
            {QUICK, SLOW, PASS}};
        CupsAndPea x = new CupsAndPea();
        for (int kind = 0; kind < 7; kind++) {
            x.pass(kind, 0, 1);
            x.hold(kind, kind);
            for (int other : above[kind]) {
                isOf[kind][other] = true;
            }
        }
        for (int kind = 0; kind < 7; kind++) {
            for (int other = 0; other < 7; other++) {
                Check.due(kind + " as " + other, isOf[kind][other] ? kind : Check.KIND, x.as(kind, other));
            }
        }
        Check.due("kind 7", Check.BEYOND, x.as(0, 7));
        Check.due("kind -1", Check.BEYOND, x.as(0, -1));
        Check.due("kind -1 of nothing", Check.BEYOND, x.as(9, -1));
        Check.due("spot 10", Check.BEYOND, x.as(10, 0));
        Check.due("spot -1", Check.BEYOND, x.as(-1, 0));
        x.change(3, SLOW);
        Check.due("as it is then", 3, x.as(3, SLOW));
        Check.due("not as it was", Check.KIND, x.as(3, DROP));
    }

    private static void asMissing() {
        CupsAndPea x = Check.with(3, PASS, 0, 1, WHIRL, 0, 1);
        x.hold(4, 1);
        x.back();
        Check.due("taken back", Check.MISSING, x.as(4, WHIRL));
        Check.due("missing is asked before kind", Check.MISSING, x.as(4, QUICK));
        Check.due("it holds something", 1, x.count(7));
        Check.due("can't be held any more", Check.BEYOND, x.hold(5, 1));
        x.pass(FEINT, 1, 2);
        Check.due("there again", 1, x.as(4, FEINT));
    }

    private static void sheet() {
        CupsAndPea x = new CupsAndPea();
        int[] bits = {8, 16, 32};
        for (int b : bits) {
            Check.due("sheet of 40", 40, x.sheet(3, b, 40));
            Check.due("the last", 1, x.write(3, 39, 1));
            Check.due("sheet of 0", 0, x.sheet(3, b, 0));
            Check.due("no first", Check.BEYOND, x.write(3, 0, 1));
            Check.due("but it is there", 0, x.judge(3));
            Check.due("41", Check.BEYOND, x.sheet(3, b, 41));
            Check.due("-1", Check.SIZE, x.sheet(3, b, -1));
        }
        Check.due("refused: as it was", 0, x.judge(3));
        x.sheet(2, 8, 3);
        x.write(2, 0, 5);
        x.sheet(2, 8, 3);
        Check.due("all 0 again", 0, x.judge(2));
        Check.due("no bits, but a size", 0, x.sheet(2, 0, 40));
        Check.due("missing", Check.MISSING, x.judge(2));
        Check.due("missing again", 0, x.sheet(2, 0, 0));
        Check.due("no bits, -1", Check.SIZE, x.sheet(2, 0, -1));
        Check.due("no bits, 41", Check.BEYOND, x.sheet(2, 0, 41));
        Check.due("sheet 4", Check.BEYOND, x.sheet(4, 8, 1));
        Check.due("sheet -1", Check.BEYOND, x.sheet(-1, 8, 1));
        int[] others = {-8, 1, 7, 9, 24, 64, 33};
        for (int b : others) {
            Check.due("bits " + b, Check.BEYOND, x.sheet(0, b, 1));
            Check.due("bits are asked before the size", Check.BEYOND, x.sheet(0, b, -1));
        }
        Check.due("the least size", Check.SIZE, x.sheet(0, 8, Integer.MIN_VALUE));
        Check.due("the greatest", Check.BEYOND, x.sheet(0, 8, Integer.MAX_VALUE));
        Check.due("nothing is there", Check.MISSING, x.judge(0));
    }

    /** Whether a number on a sheet reads as pea in the hand, which is -1: judge() tells it. */
    private static int readsAsHand(CupsAndPea x, int s, int v) {
        x.pea(-1);
        x.write(s, 0, v);
        return x.judge(s) == 0 ? 1 : 0;
    }

    private static void write() {
        CupsAndPea x = new CupsAndPea();
        Check.due("missing", Check.MISSING, x.write(0, 0, 1));
        Check.due("missing, no such number either", Check.MISSING, x.write(0, -1, 1));
        Check.due("sheet 4", Check.BEYOND, x.write(4, 0, 1));
        Check.due("sheet -1", Check.BEYOND, x.write(-1, 0, 1));
        x.sheet(0, 8, 2);
        x.sheet(1, 16, 2);
        x.sheet(2, 32, 2);
        Check.due("number 2", Check.BEYOND, x.write(0, 2, 1));
        Check.due("number -1", Check.BEYOND, x.write(0, -1, 1));
        Check.due("write", 1, x.write(0, 1, 1));
        int[][] due = {{1, 1, 1}, {1, 0, 0}, {1, 1, 0}, {0, 0, 0}, {0, 0, 0}, {1, 0, 0}};
        int[] numbers = {-1, 255, 65535, 127, 0, 0x12ff};
        for (int i = 0; i < numbers.length; i++) {
            for (int s = 0; s < 3; s++) {
                Check.due(numbers[i] + " on " + s, due[i][s], readsAsHand(x, s, numbers[i]));
            }
        }
        // 257 is 1 on 8 bits, 65537 is 1 on 16; none is on 32.
        x.pea(1);
        int[][] one = {{257, 0}, {65537, 0}, {65537, 1}, {257, 1}, {65537, 2}};
        int[] then = {0, 0, 0, 1, 1};
        for (int i = 0; i < one.length; i++) {
            x.write(one[i][1], 0, one[i][0]);
            Check.due(one[i][0] + " on " + one[i][1], then[i], x.judge(one[i][1]));
        }
    }

    /** Lays a sheet of 8 bits with these numbers. */
    private static void lay(CupsAndPea x, int s, int... numbers) {
        x.sheet(s, 8, numbers.length);
        for (int i = 0; i < numbers.length; i++) {
            x.write(s, i, numbers[i]);
        }
    }

    /** Loads a sheet into passes and compares the kinds. */
    private static void kinds(String what, CupsAndPea x, int s, int... due) {
        Check.due(what, due.length, x.load(s));
        for (int i = 0; i < due.length; i++) {
            Check.due(what + " at " + i, due[i], x.of(i, 0));
        }
    }

    private static CupsAndPea withSix() {
        return Check.with(3, PASS, 0, 1, PASS, 0, 1, PASS, 0, 1, PASS, 0, 1, PASS, 0, 1, PASS, 0, 1);
    }

    private static void copy() {
        CupsAndPea x = withSix();
        lay(x, 0, 1, 2, 3, 4, 5, 6);
        lay(x, 1, 0, 0, 0, 0);
        Check.due("copy", 2, x.copy(0, 3, 1, 1, 2));
        kinds("copied", x, 1, 0, 4, 5, 0);
        kinds("from there", x, 0, 1, 2, 3, 4, 5, 6);
        Check.due("copy up", 4, x.copy(0, 0, 0, 2, 4));
        kinds("as they were", x, 0, 1, 2, 1, 2, 3, 4);
        Check.due("copy down", 4, x.copy(0, 2, 0, 0, 4));
        kinds("as they were again", x, 0, 1, 2, 3, 4, 3, 4);
        Check.due("copy of none", 0, x.copy(0, 6, 1, 4, 0));
        Check.due("copy of all", 4, x.copy(1, 0, 0, 2, 4));
        kinds("all", x, 0, 1, 2, 0, 4, 5, 0);
        x.sheet(2, 32, 2);
        x.sheet(3, 32, 2);
        x.write(2, 1, 65536);
        x.copy(2, 1, 3, 0, 1);
        Check.due("with all bits", 1, x.judge(3));
    }

    private static void copyRefused() {
        CupsAndPea x = withSix();
        lay(x, 0, 1, 2, 3);
        lay(x, 1, 4, 5, 6, 6);
        x.sheet(2, 16, 9);
        Check.due("sheet 4", Check.BEYOND, x.copy(4, 0, 3, 0, 1));
        Check.due("to sheet 4", Check.BEYOND, x.copy(3, 0, 4, 0, 1));
        Check.due("sheet -1", Check.BEYOND, x.copy(-1, 0, 1, 0, 1));
        Check.due("to sheet -1", Check.BEYOND, x.copy(0, 0, -1, 0, 1));
        Check.due("missing", Check.MISSING, x.copy(3, 0, 2, 0, 1));
        Check.due("to a missing one", Check.MISSING, x.copy(0, -1, 3, 0, 1));
        Check.due("other bits", Check.KIND, x.copy(0, 0, 2, 0, 1));
        Check.due("other bits, and too many", Check.KIND, x.copy(0, 0, 2, 0, 99));
        Check.due("other bits the other way", Check.KIND, x.copy(2, 0, 0, -1, 1));
        int[][] beyond = {{2, 0, 2}, {0, 3, 2}, {4, 0, 0}, {0, 5, 0}, {-1, 0, 1}, {0, -1, 1}, {0, 0, -1}, {0, 0, 4},
            {1, 0, Integer.MAX_VALUE}, {Integer.MAX_VALUE, 0, 1}, {0, Integer.MAX_VALUE, 1}, {Integer.MIN_VALUE, 0, 1},
            {0, Integer.MIN_VALUE, 1}, {0, 0, Integer.MIN_VALUE}, {Integer.MAX_VALUE, Integer.MAX_VALUE, Integer.MAX_VALUE}};
        for (int[] c : beyond) {
            Check.due("copy " + c[0] + " " + c[1] + " " + c[2], Check.BEYOND, x.copy(0, c[0], 1, c[1], c[2]));
        }
        Check.due("exactly so many", 3, x.copy(0, 0, 1, 1, 3));
        kinds("and only these", x, 1, 4, 1, 2, 3);
    }

    private static void load() {
        CupsAndPea x = withSix();
        Check.due("missing", Check.MISSING, x.load(0));
        Check.due("sheet 4", Check.BEYOND, x.load(4));
        Check.due("sheet -1", Check.BEYOND, x.load(-1));
        lay(x, 0, 6, 5, 7, 1);
        Check.due("to the 7", 2, x.load(0));
        int[] due = {6, 5, 0, 0, 0, 0};
        for (int i = 0; i < 6; i++) {
            Check.due("kind then", due[i], x.of(i, 0));
        }
        lay(x, 0, 4, -1, 3);
        Check.due("to the -1", 1, x.load(0));
        Check.due("kind then", 4, x.of(0, 0));
        lay(x, 0, 0, 1, 2, 3, 4, 5, 6, 6);
        kinds("as far as there are passes", x, 0, 0, 1, 2, 3, 4, 5);
        lay(x, 0);
        Check.due("of none", 0, x.load(0));
        CupsAndPea none = new CupsAndPea();
        none.sheet(3, 8, 5);
        Check.due("no passes", 0, none.load(3));
    }

    private static void judge() {
        CupsAndPea x = Check.with(3, PASS, 0, 1, LIFT, 1, 2);
        Check.due("missing", Check.MISSING, x.judge(0));
        Check.due("sheet 4", Check.BEYOND, x.judge(4));
        Check.due("sheet -1", Check.BEYOND, x.judge(-1));
        lay(x, 0, 0, 1, -1);
        Check.due("all do", 0, x.judge(0));
        lay(x, 0, 0, 1, -1, 2, 9);
        Check.due("as far as there are passes", 0, x.judge(0));
        lay(x, 0, 0, 1, 1);
        Check.due("the last does not", 3, x.judge(0));
        lay(x, 0, 0, 0, 1);
        Check.due("the first that does not", 2, x.judge(0));
        lay(x, 0, 1, 0);
        Check.due("the first", 1, x.judge(0));
        lay(x, 0, 0);
        Check.due("as far as it tells", 0, x.judge(0));
        lay(x, 0);
        Check.due("it tells nothing", 0, x.judge(0));
    }
}

/** What the tests share: it compares answers, prints the wrong ones and ends the test. */
final class Check {
    static final int BEYOND = -1000001;
    static final int FULL = -1000002;
    static final int KIND = -1000003;
    static final int NONE = -1000004;
    static final int STATE = -1000005;
    static final int MISSING = -1000006;
    static final int SIZE = -1000007;
    static final int[] WILD = {Integer.MIN_VALUE, -1000000, -2, 1000000, Integer.MAX_VALUE};

    private static int right = 0;
    private static int wrong = 0;

    private Check() {
    }

    static void due(String call, long want, long got) {
        if (got == want) {
            right++;
            return;
        }
        wrong++;
        System.out.println(call + " answered " + got + ", due is " + want);
    }

    static void fail(String what) {
        wrong++;
        System.out.println(what);
    }

    /** An object with so many cups and these passes, three numbers each: kind, a, b. */
    static CupsAndPea with(int cups, int... passes) {
        CupsAndPea x = new CupsAndPea();
        x.cups(cups);
        for (int i = 0; i + 2 < passes.length; i += 3) {
            due("pass " + i / 3, i / 3, x.pass(passes[i], passes[i + 1], passes[i + 2]));
        }
        return x;
    }

    /** Feeds the signs of a text one by one. */
    static void feed(CupsAndPea x, String text) {
        for (int i = 0; i < text.length(); i++) {
            x.feed(text.charAt(i), 1);
        }
    }

    /** What text() answers to these signs on an empty tape. */
    static int read(CupsAndPea x, String text) {
        x.wipe();
        feed(x, text);
        return x.text();
    }

    /** What tells all of the state but spots and sheets, one number behind another. */
    static String state(CupsAndPea x) {
        StringBuilder all = new StringBuilder();
        for (int what = 0; what <= 7; what++) {
            all.append(x.count(what)).append(' ');
        }
        for (int what = 0; what <= 4; what++) {
            all.append(x.now(what)).append(' ');
        }
        for (int i = 0; i < x.now(2); i++) {
            all.append(x.of(i, 0)).append(x.of(i, 1)).append(x.of(i, 2)).append(' ');
        }
        for (int i = 0; i < 4; i++) {
            int slip = x.eye(i, 0, 0);
            x.eye(i, 0, slip);
            int begin = x.eye(i, 1, 0);
            x.eye(i, 1, begin);
            all.append(slip).append(',').append(begin).append(' ');
            for (int what = 0; what <= 4; what++) {
                all.append(x.told(i, what)).append(',');
            }
        }
        return all.toString();
    }

    static void same(String what, String want, String got) {
        if (want.equals(got)) {
            right++;
        } else {
            wrong++;
            System.out.println(what + ": " + got + ", due is " + want);
        }
    }

    static void end() {
        System.out.println(right + " answers as due, " + wrong + " not");
        if (wrong != 0) {
            System.exit(1);
        }
    }
}

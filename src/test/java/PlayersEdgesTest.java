/** Promises 27 to 36 where the document names an edge: purses, stakes, who has left, ten rounds, draws of an int. */
final class PlayersEdgesTest implements Kinds {
    private static final int LOSE = 0;
    private static final int WIN = 1;

    public static void main(String[] args) {
        ownAtFirst();
        stakesThePurse();
        stakeDoubles();
        stakeHalves();
        bears();
        purses();
        leftAndBack();
        taken();
        playsAtTheEdge();
        bestOfNone();
        bestAtTheEdges();
        shouldOrNot();
        richestOfSome();
        whoLeft();
        draws();
        shuffles();
        Check.end();
    }

    private static CupsAndPea with(int purse, int stake, int bears) {
        CupsAndPea x = new CupsAndPea();
        set(x, 0, purse, stake, bears);
        return x;
    }

    private static void set(CupsAndPea x, int player, int purse, int stake, int bears) {
        x.player(player, 0, purse);
        x.player(player, 1, stake);
        x.player(player, 2, bears);
    }

    private static void tells(String what, CupsAndPea x, int player, int... due) {
        for (int i = 0; i < due.length; i++) {
            Check.due(what + ": told " + i, due[i], x.told(player, i));
        }
    }

    private static void ownAtFirst() {
        CupsAndPea x = new CupsAndPea();
        for (int i = 0; i < 4; i++) {
            tells("at first", x, i, 50, 4, 2, 0, 0);
            Check.due("purse to the least", 50, x.player(i, 0, 0));
            Check.due("purse to the most", 0, x.player(i, 0, 9999));
            Check.due("stake to the least", 4, x.player(i, 1, 1));
            Check.due("stake to the most", 1, x.player(i, 1, 99));
            Check.due("bears the least", 2, x.player(i, 2, 1));
            Check.due("bears the most", 1, x.player(i, 2, 9));
            tells("then", x, i, 9999, 99, 9, 0, 0);
        }
        Check.due("all purses", 4 * 9999, x.count(2));
        Check.due("all stakes", 4 * 99, x.count(3));
    }

    /** One stakes STAKE, but PURSE at most, and what STAKE was is doubled or halved all the same. */
    private static void stakesThePurse() {
        int[][] due = {{9, 9}, {10, 10}, {11, 10}, {1, 1}};
        for (int[] d : due) {
            CupsAndPea x = with(d[0], 10, 9);
            Check.due("staked of " + d[0], d[1], x.round(0, WIN));
            tells("won", x, 0, d[0] + d[1], 20, 9, 0, 0);
            Check.due("taken", -d[1], x.now(0));
            CupsAndPea y = with(d[0], 10, 9);
            Check.due("staked of " + d[0], d[1], y.round(0, LOSE));
            tells("lost", y, 0, d[0] - d[1], 5, 9, 1, d[0] == d[1] ? 1 : 0);
            Check.due("taken", d[1], y.now(0));
        }
    }

    private static void stakeDoubles() {
        int[][] due = {{1, 2}, {2, 4}, {48, 96}, {49, 98}, {50, 99}, {98, 99}, {99, 99}};
        for (int[] d : due) {
            CupsAndPea x = with(500, d[0], 9);
            Check.due("stakes " + d[0], d[0], x.round(0, WIN));
            Check.due("twice " + d[0], d[1], x.told(0, 1));
        }
    }

    private static void stakeHalves() {
        int[][] due = {{1, 1}, {2, 1}, {3, 1}, {4, 2}, {5, 2}, {98, 49}, {99, 49}};
        for (int[] d : due) {
            CupsAndPea x = with(500, d[0], 9);
            Check.due("stakes " + d[0], d[0], x.round(0, LOSE));
            Check.due("half of " + d[0], d[1], x.told(0, 1));
        }
    }

    /** One leaves behind so many losses in a row, no sooner; a win in between begins the row anew. */
    private static void bears() {
        for (int bears = 1; bears <= 9; bears++) {
            CupsAndPea x = with(9999, 1, bears);
            for (int i = 1; i < bears; i++) {
                x.round(0, LOSE);
                tells("not yet of " + bears, x, 0, 9999 - i, 1, bears, i, 0);
            }
            Check.due("a win, bears " + bears, 1, x.round(0, WIN));
            Check.due("in a row", 0, x.told(0, 3));
            for (int i = 1; i <= bears; i++) {
                Check.due("still there", 0, x.told(0, 4));
                x.round(0, LOSE);
            }
            Check.due("in a row", bears, x.told(0, 3));
            Check.due("left", 1, x.told(0, 4));
            Check.due("no round", Check.STATE, x.round(0, WIN));
            Check.due("no play", Check.STATE, x.play(0, 0));
        }
    }

    private static void purses() {
        CupsAndPea x = with(9999, 99, 9);
        int purse = 9999;
        for (int i = 0; i < 20; i++) {
            Check.due("99 at most", 99, x.round(0, WIN));
            purse += 99;
            Check.due("more than can be told", purse, x.told(0, 0));
        }
        Check.due("so it was", purse, x.player(0, 0, 9999));
        Check.due("not so any more", Check.BEYOND, x.player(0, 0, 10000));
        CupsAndPea one = with(1, 1, 9);
        Check.due("its last", 1, one.round(0, LOSE));
        tells("no purse", one, 0, 0, 1, 9, 1, 1);
        Check.due("left", Check.STATE, one.round(0, WIN));
        CupsAndPea none = with(0, 1, 9);
        tells("none at all", none, 0, 0, 1, 9, 0, 1);
        Check.due("left", Check.STATE, none.round(0, LOSE));
        Check.due("nothing taken", 0, none.now(0));
    }

    private static void leftAndBack() {
        CupsAndPea x = with(100, 4, 3);
        for (int i = 0; i < 3; i++) {
            x.round(0, LOSE);
        }
        tells("left", x, 0, 93, 1, 3, 3, 1);
        x.player(0, 2, 4);
        tells("bears one more", x, 0, 93, 1, 4, 3, 0);
        Check.due("so it plays", 1, x.round(0, LOSE));
        tells("left again", x, 0, 92, 1, 4, 4, 1);
        x.player(0, 2, 2);
        tells("bears less than it has lost", x, 0, 92, 1, 2, 4, 1);
        Check.due("no round", Check.STATE, x.round(0, WIN));
        x.player(0, 2, 9);
        x.player(0, 0, 0);
        Check.due("no purse", 1, x.told(0, 4));
        x.player(0, 0, 1);
        Check.due("a purse of one", 0, x.told(0, 4));
        Check.due("the others are there", 0, x.now(4));
    }

    private static void taken() {
        CupsAndPea x = new CupsAndPea();
        Check.due("nothing at first", 0, x.now(0));
        for (int i = 0; i < 4; i++) {
            x.round(i, WIN);
        }
        Check.due("lost to all", -16, x.now(0));
        for (int i = 0; i < 4; i++) {
            x.round(i, LOSE);
        }
        Check.due("and taken from all", 16, x.now(0));
        x.player(0, 0, 0);
        Check.due("a purse that is told away isn't taken", 16, x.now(0));
    }

    private static void playsAtTheEdge() {
        CupsAndPea x = new CupsAndPea();
        Check.due("no passes", 1, x.play(0, 0));
        tells("won", x, 0, 54, 8, 2, 0, 0);
        x.pea(2);
        Check.due("elsewhere", 0, x.play(0, 3));
        tells("lost", x, 0, 46, 4, 2, 1, 0);
        x.eye(3, 1, 2);
        Check.due("where it thinks", 1, x.play(0, 3));
        x.pea(-1);
        Check.due("in the hand nobody wins", 0, x.play(0, 3));
        Check.due("nor now", 0, x.play(0, 2));
        Check.due("left", Check.STATE, x.play(0, 2));
        x.pea(0);
        Check.due("even if it would win", Check.STATE, x.play(0, 2));
        Check.due("another one", 1, x.play(3, 2));
        CupsAndPea tie = Check.with(3, PASS, 0, 1);
        tie.eye(0, 0, 5);
        // As much at 1 as at 2: it guesses 1.
        Check.due("the pea is at 1", 1, tie.play(1, 0));
        tie.pea(2);
        Check.due("the pea is at 2", 0, tie.play(1, 0));
    }

    private static void bestOfNone() {
        CupsAndPea lost = with(50, 4, 1);
        lost.round(0, LOSE);
        CupsAndPea poor = with(0, 99, 9);
        for (int n = 1; n <= 10; n++) {
            Check.due("has lost too often", 0, lost.best(0, n));
            Check.due("so he needn't", -1, lost.should(0, n));
            Check.due("has no purse", 0, poor.best(0, n));
            Check.due("so he needn't", -1, poor.should(0, n));
        }
        Check.due("no finding", 0, lost.status(-1) + poor.status(-1));
    }

    private static void bestAtTheEdges() {
        for (int n = 1; n <= 10; n++) {
            Check.due("a purse of one", 1, with(1, 99, 9).best(0, n));
            Check.due("bears one: it leaves by the first", 4, with(50, 4, 1).best(0, n));
        }
        // To the fifth all are lost. Then four are won first (1, 2, 4, 8) and two lost (16, 8), or five and two, six and two,
        // six and three; of ten: six won, 64 lost, 32 won, 64 and 32 lost.
        int[] ofOne = {1, 2, 3, 4, 5, 9, 17, 33, 49, 65};
        for (int n = 1; n <= 10; n++) {
            Check.due("stakes one, " + n, ofOne[n - 1], with(9999, 1, 9).best(0, n));
        }
        // 99, 49 and 24 lost; of nine: 99 lost, thrice 49 won and 98 lost, then 49 and 24.
        Check.due("one of 99", 99, with(9999, 99, 9).best(0, 1));
        Check.due("two of 99", 148, with(9999, 99, 9).best(0, 2));
        Check.due("three of 99", 172, with(9999, 99, 9).best(0, 3));
        Check.due("nine of 99", 319, with(9999, 99, 9).best(0, 9));
        // Lost once of two: a loss brings 50 and it leaves; a win costs 50, and then 99 and 49 come.
        CupsAndPea x = with(9999, 99, 2);
        x.round(0, LOSE);
        x.player(0, 1, 50);
        Check.due("one round", 50, x.best(0, 1));
        Check.due("two rounds", 50, x.best(0, 2));
        Check.due("three rounds", 98, x.best(0, 3));
        Check.due("nothing is played", 99, x.now(0));
        tells("nor told", x, 0, 9900, 50, 2, 1, 0);
    }

    private static void shouldOrNot() {
        CupsAndPea x = with(9999, 99, 2);
        x.round(0, LOSE);
        x.player(0, 1, 50);
        Check.due("one round: a win costs", 0, x.should(0, 1));
        // A win and a loss: 49; a loss: 50.
        Check.due("two rounds", 0, x.should(0, 2));
        Check.due("three rounds", 1, x.should(0, 3));
        // A loss brings 4, and it leaves; a win costs 4, and a loss of 8 comes.
        Check.due("both bring as much", 0, with(50, 4, 1).should(0, 2));
        // Three won, 1, 2 and 4, and 8 and 4 lost: as much as five of 1. Of six a win is better.
        Check.due("five of 1", 0, with(9999, 1, 9).should(0, 5));
        Check.due("six of 1", 1, with(9999, 1, 9).should(0, 6));
        Check.due("of one round, none wins", 0, with(50, 4, 9).should(0, 1));
        Check.due("a purse of one", 0, with(1, 1, 1).should(0, 1));
    }

    private static void richestOfSome() {
        CupsAndPea x = new CupsAndPea();
        for (int n = 1; n <= 10; n++) {
            Check.due("all alike", 0, x.richest(n));
        }
        for (int i = 3; i >= 0; i--) {
            set(x, i, 50, 5, 2);
            Check.due("the only one, or the first of as rich ones", i, x.richest(1));
            Check.due("in two rounds", i, x.richest(2));
        }
        for (int i = 0; i < 4; i++) {
            x.player(i, 0, 0);
            Check.due("of those who haven't left", i < 3 ? i + 1 : 0, x.richest(1));
        }
        x.player(3, 0, 1);
        Check.due("one who has one", 3, x.richest(10));
    }

    private static void whoLeft() {
        CupsAndPea x = new CupsAndPea();
        int set = 0;
        Check.due("nobody", 0, x.now(4));
        for (int i = 0; i < 4; i++) {
            if (i % 2 == 0) {
                x.player(i, 0, 0);
            } else {
                x.round(i, LOSE);
                Check.due("not yet", set, x.now(4));
                x.round(i, LOSE);
            }
            set |= 1 << i;
            Check.due("so many", set, x.now(4));
        }
        Check.due("all", 15, x.now(4));
        x.player(2, 0, 9);
        Check.due("one has a purse again", 11, x.now(4));
        Check.due("where the pea begins", 0, x.now(3));
        x.pea(-1);
        Check.due("in the hand, and no finding", -1, x.now(3));
        Check.due("none at all", 0, x.status(-1));
    }

    /** z wraps around as an int; a draw is what stands above its lowest 8 bits, never below 0. */
    private static void draws() {
        int[][] due = {{1, 1103527590}, {0, 12345}, {-1, -1103502900}, {Integer.MAX_VALUE, 1043980748},
            {Integer.MIN_VALUE, -2147471303}};
        for (int[] d : due) {
            CupsAndPea x = new CupsAndPea();
            x.seed(d[0]);
            int second = d[1] * 1103515245 + 12345;
            int third = second * 1103515245 + 12345;
            x.shuffle(1);
            Check.due("z behind three draws from " + d[0], third, x.seed(5));
            Check.due("kind", (d[1] & 0xffffffffL) / 256 % 7, x.of(0, 0));
            long a = (second & 0xffffffffL) / 256 % 3;
            Check.due("a", a, x.of(0, 1));
            Check.due("b", (a + 1 + (third & 0xffffffffL) / 256 % 2) % 3, x.of(0, 2));
        }
        CupsAndPea y = new CupsAndPea();
        for (int v : new int[] {Integer.MIN_VALUE, Check.BEYOND, Check.SIZE, -1, 0, Integer.MAX_VALUE}) {
            y.seed(v);
            Check.due("any int", v, y.count(6));
            Check.due("any int", v, y.seed(v));
        }
        Check.due("no finding", 0, y.status(-1));
    }

    private static void shuffles() {
        for (int n = 1; n <= 12; n++) {
            CupsAndPea x = Check.with(6, LIFT, 0, 1, DROP, 0, 1);
            int end = x.shuffle(n);
            Check.due("so many more", n + 2, x.now(2));
            Check.due("where it is", x.where(n + 2), end);
            for (int i = 2; i < n + 2; i++) {
                Check.due("unlike places", 1, x.of(i, 1) != x.of(i, 2) ? 1 : 0);
            }
            Check.due("and no more than 14", Check.FULL, x.shuffle(13 - n));
        }
        // Whatever is drawn, b is one of all other places, and 0 comes behind the last.
        boolean[][] seen = new boolean[6][6];
        CupsAndPea x = Check.with(6);
        for (int i = 0; i < 40; i++) {
            x.shuffle(12);
            while (x.now(2) > 0) {
                seen[x.of(x.now(2) - 1, 1)][x.of(x.now(2) - 1, 2)] = true;
                x.back();
            }
        }
        for (int a = 0; a < 6; a++) {
            for (int b = 0; b < 6; b++) {
                Check.due("drawn: " + a + ", " + b, a != b ? 1 : 0, seen[a][b] ? 1 : 0);
            }
        }
    }
}

/** Promises 27 to 34: players. */
final class PlayersTest {
    private static final int PURSE = 0;
    private static final int STAKE = 1;
    private static final int BEARS = 2;
    private static final int LOST = 3;
    private static final int LEFT = 4;

    public static void main(String[] args) {
        player();
        told();
        round();
        play();
        best();
        should();
        richest();
        now();
        Check.end();
    }

    private static CupsAndPea with(int purse, int stake, int bears) {
        CupsAndPea x = new CupsAndPea();
        x.player(0, PURSE, purse);
        x.player(0, STAKE, stake);
        x.player(0, BEARS, bears);
        return x;
    }

    private static void tells(String what, CupsAndPea x, int player, int... due) {
        for (int i = 0; i < due.length; i++) {
            Check.due(what + ", told " + i, due[i], x.told(player, i));
        }
    }

    private static void player() {
        CupsAndPea x = new CupsAndPea();
        for (int i = 0; i < 4; i++) {
            Check.due("purse", 50, x.player(i, PURSE, 9999 - i));
            Check.due("stake", 4, x.player(i, STAKE, 99 - i));
            Check.due("bears", 2, x.player(i, BEARS, 9 - i));
        }
        for (int i = 0; i < 4; i++) {
            Check.due("purse then", 9999 - i, x.player(i, PURSE, 0));
            Check.due("stake then", 99 - i, x.player(i, STAKE, 1));
            Check.due("bears then", 9 - i, x.player(i, BEARS, 1));
        }
        int[][] beyond = {{-1, 0, 5}, {4, 0, 5}, {0, -1, 5}, {0, 3, 5}, {0, 0, -1}, {0, 0, 10000}, {0, 1, 0}, {0, 1, 100},
            {0, 2, 0}, {0, 2, 10}};
        for (int[] p : beyond) {
            Check.due("such a player", Check.BEYOND, x.player(p[0], p[1], p[2]));
        }
        for (int wild : Check.WILD) {
            Check.due("wild player", Check.BEYOND, x.player(wild, 0, 5));
            Check.due("wild what", Check.BEYOND, x.player(0, wild, 5));
            Check.due("wild number", Check.BEYOND, x.player(0, 0, wild));
        }
        tells("nothing changed", x, 0, 0, 1, 1, 0, 1);
        CupsAndPea rich = with(9999, 99, 2);
        rich.round(0, 1);
        Check.due("more than it can be told", 10098, rich.player(0, PURSE, 1));
    }

    private static void told() {
        CupsAndPea x = new CupsAndPea();
        tells("at first", x, 3, 50, 4, 2, 0, 0);
        Check.due("told 5", Check.BEYOND, x.told(0, 5));
        Check.due("told -1", Check.BEYOND, x.told(0, -1));
        Check.due("told of 4", Check.BEYOND, x.told(4, 0));
        Check.due("told of -1", Check.BEYOND, x.told(-1, 0));
        x.round(3, 0);
        tells("lost once", x, 3, 46, 2, 2, 1, 0);
        x.round(3, 0);
        tells("lost twice", x, 3, 44, 1, 2, 2, 1);
        x.player(3, BEARS, 3);
        tells("bears more", x, 3, 44, 1, 3, 2, 0);
        x.player(3, BEARS, 1);
        tells("bears less than it has lost", x, 3, 44, 1, 1, 2, 1);
        x.player(3, BEARS, 9);
        x.player(3, PURSE, 0);
        tells("no purse", x, 3, 0, 1, 9, 2, 1);
        x.player(3, PURSE, 1);
        tells("a purse again", x, 3, 1, 1, 9, 2, 0);
        tells("another one", x, 2, 50, 4, 2, 0, 0);
    }

    private static void round() {
        CupsAndPea x = with(50, 7, 3);
        Check.due("lets it win", 7, x.round(0, 1));
        tells("won", x, 0, 57, 14, 3, 0, 0);
        Check.due("taken", -7, x.now(0));
        Check.due("does not", 14, x.round(0, 0));
        tells("lost", x, 0, 43, 7, 3, 1, 0);
        Check.due("nor now", 7, x.round(0, 0));
        tells("lost again", x, 0, 36, 3, 3, 2, 0);
        Check.due("lets it win again", 3, x.round(0, 1));
        tells("won again", x, 0, 39, 6, 3, 0, 0);
        Check.due("taken", 11, x.now(0));
        for (int i = 0; i < 2; i++) {
            Check.due("not yet", 0, x.told(0, LEFT));
            x.round(0, 0);
        }
        x.round(0, 0);
        Check.due("three in a row", Check.STATE, x.round(0, 1));
        Check.due("nor to lose", Check.STATE, x.round(0, 0));
        Check.due("beyond is asked first", Check.BEYOND, x.round(0, 2));
        tells("left", x, 0, 29, 1, 3, 3, 1);
        Check.due("win -1", Check.BEYOND, x.round(1, -1));
        Check.due("round of 4", Check.BEYOND, x.round(4, 0));
        Check.due("round of -1", Check.BEYOND, x.round(-1, 0));

        CupsAndPea poor = with(3, 60, 9);
        Check.due("stakes what it has", 3, poor.round(0, 1));
        tells("twice what stake was", poor, 0, 6, 99, 9, 0, 0);
        Check.due("all of it", 6, poor.round(0, 0));
        tells("nothing left", poor, 0, 0, 49, 9, 1, 1);
        Check.due("no purse", Check.STATE, poor.round(0, 1));
        CupsAndPea least = with(50, 1, 9);
        least.round(0, 0);
        Check.due("one at least", 1, least.told(0, STAKE));
        CupsAndPea most = with(500, 50, 9);
        most.round(0, 1);
        Check.due("99 at most", 99, most.told(0, STAKE));
        CupsAndPea nearly = with(500, 49, 9);
        nearly.round(0, 1);
        Check.due("98", 98, nearly.told(0, STAKE));
        nearly.round(3, 0);
        Check.due("from all", 4 - 49, nearly.now(0));
    }

    private static void play() {
        CupsAndPea x = Check.with(3, 0, 0, 1, 1, 1, 2);
        // The pea is at 1; eye 0 thinks 68 of it at 2.
        Check.due("eye 0 is wrong", 0, x.play(0, 0));
        tells("lost", x, 0, 46, 2, 2, 1, 0);
        x.eye(1, 0, 10);
        // Behind 1: 2, which stays by slipping.
        Check.due("eye 1 as well", 0, x.play(1, 1));
        x.change(1, 5);
        Check.due("now it is right", 1, x.play(1, 0));
        tells("won", x, 1, 48, 4, 2, 0, 0);
        Check.due("taken", 4 + 4 - 2, x.now(0));
        x.change(1, 1);
        x.play(0, 0);
        Check.due("left", Check.STATE, x.play(0, 0));
        Check.due("play of 4", Check.BEYOND, x.play(4, 0));
        Check.due("play of -1", Check.BEYOND, x.play(-1, 0));
        Check.due("by eye 4, left", Check.BEYOND, x.play(0, 4));
        Check.due("by eye -1", Check.BEYOND, x.play(1, -1));
        CupsAndPea hand = new CupsAndPea();
        hand.pea(-1);
        Check.due("in the hand nobody wins", 0, hand.play(2, 0));
        hand.pea(0);
        Check.due("without passes", 1, hand.play(2, 0));
    }

    private static void best() {
        CupsAndPea x = with(100, 10, 3);
        // 10; 10, 5; -10, 20, 10; -10, -20, 40, 20.
        Check.due("one", 10, x.best(0, 1));
        Check.due("two", 15, x.best(0, 2));
        Check.due("three", 20, x.best(0, 3));
        Check.due("four", 30, x.best(0, 4));
        Check.due("nothing was played", 0, x.now(0));
        CupsAndPea poor = with(5, 10, 3);
        Check.due("no more than it has", 5, poor.best(0, 1));
        Check.due("nor in ten", 5, poor.best(0, 10));
        CupsAndPea one = with(50, 4, 1);
        Check.due("bears one, one", 4, one.best(0, 1));
        // Wins cost 4, then it stakes 8: 4 as well; 4, 8, then 16: 4.
        Check.due("bears one, two", 4, one.best(0, 2));
        Check.due("bears one, ten", 4, one.best(0, 10));
        one.round(0, 0);
        Check.due("left", 0, one.best(0, 10));
        one.player(0, BEARS, 2);
        Check.due("it has lost once already", 2, one.best(0, 1));
        Check.due("and would leave, but for a win", 2, one.best(0, 2));
        one.player(0, PURSE, 0);
        Check.due("no purse", 0, one.best(0, 3));
        // 60, -30, 60, 30; or -60, 99 (not 120), 49, 24.
        CupsAndPea most = with(9999, 60, 9);
        Check.due("one of 60", 60, most.best(0, 1));
        Check.due("99 at most", 120, most.best(0, 4));
        Check.due("99 at most, so not first", 0, most.should(0, 4));
        // 60, 30, 15, 7, 3, 1, 1, 1: then its purse is empty.
        CupsAndPea all = with(118, 60, 9);
        Check.due("all that it has", 118, all.best(0, 10));
        // -2, then it has 7 and stakes 4: 4, 2.
        Check.due("what it has won counts", 4, with(5, 2, 2).best(0, 3));
        int[][] beyond = {{-1, 1}, {4, 1}, {0, 0}, {0, 11}, {0, -1}};
        for (int[] b : beyond) {
            Check.due("such a best", Check.BEYOND, most.best(b[0], b[1]));
            Check.due("such a should", Check.BEYOND, most.should(b[0], b[1]));
        }
    }

    private static void should() {
        CupsAndPea x = with(100, 10, 3);
        Check.due("one", 0, x.should(0, 1));
        Check.due("two", 0, x.should(0, 2));
        // -10, 20, 10: 20; 10, -5, 10: 15; 10, 5, 2: 17.
        Check.due("three", 1, x.should(0, 3));
        CupsAndPea one = with(50, 4, 1);
        Check.due("both bring as much", 0, one.should(0, 2));
        one.round(0, 0);
        Check.due("left", -1, one.should(0, 2));
        one.player(0, BEARS, 2);
        Check.due("both bring 2", 0, one.should(0, 2));
        // Lost once: 2 and it leaves; or -2, 4, 2: 4.
        Check.due("a win makes it stay", 1, one.should(0, 3));
        one.player(0, PURSE, 0);
        Check.due("no purse", -1, one.should(0, 2));
    }

    private static void richest() {
        CupsAndPea x = new CupsAndPea();
        Check.due("all alike", 0, x.richest(3));
        x.player(2, STAKE, 5);
        Check.due("the third", 2, x.richest(1));
        x.player(1, STAKE, 5);
        Check.due("the second as well", 1, x.richest(1));
        x.player(3, BEARS, 9);
        x.player(3, PURSE, 9999);
        Check.due("in one round", 1, x.richest(1));
        x.player(3, STAKE, 99);
        Check.due("the last", 3, x.richest(10));
        for (int i = 0; i < 4; i++) {
            x.player(i, PURSE, 0);
        }
        Check.due("none brings anything", 0, x.richest(10));
        Check.due("richest of 0", Check.BEYOND, x.richest(0));
        Check.due("richest of 11", Check.BEYOND, x.richest(11));
    }

    private static void now() {
        CupsAndPea x = Check.with(5, 0, 1, 2, 3, 0, 4);
        x.pea(-1);
        x.round(1, 0);
        x.round(1, 0);
        x.player(3, PURSE, 0);
        int[] due = {6, 5, 2, -1, 10};
        for (int what = 0; what < due.length; what++) {
            Check.due("now " + what, due[what], x.now(what));
        }
        x.player(0, PURSE, 0);
        Check.due("the first as well", 11, x.now(4));
        Check.due("now 5", Check.BEYOND, x.now(5));
        Check.due("now -1", Check.BEYOND, x.now(-1));
    }
}

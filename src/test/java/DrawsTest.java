/** Promises 35 and 36: draws. */
final class DrawsTest {
    public static void main(String[] args) {
        shuffle();
        shuffleOfSix();
        shuffleRefused();
        seed();
        Check.end();
    }

    private static int z;

    private static int draw(int by) {
        z = z * 1103515245 + 12345;
        return (z >>> 8) % by;
    }

    private static void shuffle() {
        CupsAndPea x = new CupsAndPea();
        // z is 1103527590, -1770988255 and -489957676; with 24 bits behind the lowest 8 taken as they are.
        Check.due("where the pea is", 0, x.shuffle(1) - x.where(1));
        Check.due("kind", (1103527590 >>> 8) % 7, x.of(0, 0));
        int second = 1103527590 * 1103515245 + 12345;
        int a = (second >>> 8) % 3;
        int third = second * 1103515245 + 12345;
        Check.due("a", a, x.of(0, 1));
        Check.due("b", (a + (third >>> 8) % 2 + 1) % 3, x.of(0, 2));
        Check.due("z then", third, x.count(6));
    }

    private static void shuffleOfSix() {
        for (int seed = -40; seed < 40; seed++) {
            CupsAndPea x = new CupsAndPea();
            int cups = 3 + (seed & 3);
            x.cups(cups);
            x.pass(0, 0, 1);
            x.pass(2, 1, 0);
            x.seed(seed * 99991);
            z = seed * 99991;
            int end = x.shuffle(12);
            Check.due("where the pea is in the end", x.where(14), end);
            for (int i = 2; i < 14; i++) {
                Check.due("kind", draw(7), x.of(i, 0));
                int a = draw(cups);
                Check.due("a", a, x.of(i, 1));
                Check.due("b", (a + draw(cups - 1) + 1) % cups, x.of(i, 2));
            }
            Check.due("the first stay", 2, x.of(1, 0));
            Check.due("z", z, x.seed(0));
        }
    }

    private static void shuffleRefused() {
        CupsAndPea x = new CupsAndPea();
        Check.due("shuffle 0", Check.BEYOND, x.shuffle(0));
        Check.due("shuffle 13", Check.BEYOND, x.shuffle(13));
        Check.due("shuffle -1", Check.BEYOND, x.shuffle(-1));
        Check.due("shuffle of very many", Check.BEYOND, x.shuffle(Integer.MAX_VALUE));
        x.shuffle(12);
        int then = x.count(6);
        Check.due("shuffle to 15", Check.FULL, x.shuffle(3));
        Check.due("beyond is asked first", Check.BEYOND, x.shuffle(13));
        Check.due("nothing was drawn", then, x.count(6));
        Check.due("nothing was added", 12, x.now(2));
        x.shuffle(2);
        Check.due("to 14", 14, x.now(2));
        Check.due("one more", Check.FULL, x.shuffle(1));
    }

    private static void seed() {
        CupsAndPea x = new CupsAndPea();
        Check.due("at first", 1, x.seed(Integer.MIN_VALUE));
        Check.due("the least", Integer.MIN_VALUE, x.seed(Check.NONE));
        Check.due("one like a finding", Check.NONE, x.count(6));
        Check.due("one like a finding", Check.NONE, x.seed(Integer.MAX_VALUE));
        Check.due("the greatest", Integer.MAX_VALUE, x.seed(0));
        Check.due("none of them was one", 0, x.status(-1));
    }
}

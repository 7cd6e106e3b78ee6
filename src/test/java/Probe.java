/** Tells all that an object holds but status(), to compare two of them; it uses the object up. */
final class Probe {
    private final CupsAndPea x;
    private final StringBuilder all = new StringBuilder();

    private Probe(CupsAndPea x) {
        this.x = x;
    }

    static String all(CupsAndPea x) {
        Probe p = new Probe(x);
        p.table();
        p.answers();
        p.tell("text", x.text());
        p.table();
        p.sheets();
        p.tell("undo", x.undo());
        p.table();
        p.tell("tear", x.tear());
        return p.all.toString();
    }

    private void tell(String what, long answer) {
        all.append(what).append(' ').append(answer).append('\n');
    }

    private void table() {
        all.append(Check.state(x)).append('\n');
        for (int spot = 0; spot < 10; spot++) {
            tell("spot " + spot, x.as(spot, 0));
        }
    }

    /** These may be kept ready by a program, and be wrong then. */
    private void answers() {
        tell("where", x.where(x.now(2)));
        for (int i = 0; i < 4; i++) {
            tell("guess", x.guess(i));
            tell("right", x.right(i));
            tell("best", x.best(i, 5));
        }
    }

    /** Numbers of a sheet are read as kinds of passes, which are changed for it; so there are as many as can be. */
    private void sheets() {
        while (x.now(2) < 14) {
            x.pass(0, 0, 1);
        }
        for (int s = 0; s < 4; s++) {
            tell("sheet " + s, x.load(s));
            for (int i = 0; i < 14; i++) {
                all.append(x.of(i, 0));
            }
            all.append('\n');
            for (int i : new int[] {0, 1, 2, 3, 5, 39, 40}) {
                tell("number " + i, x.write(s, i, 0));
            }
            bits(s);
        }
    }

    /** Of 8 bits 255 is -1, of 16 bits 65535, as the pea in the hand. */
    private void bits(int s) {
        x.pea(-1);
        for (int v : new int[] {255, 65535, -1}) {
            x.write(s, 0, v);
            tell("as the hand", x.judge(s) == 1 ? 1 : 0);
        }
    }
}

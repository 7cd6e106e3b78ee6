/** Promises 37 to 39: the tape and its text. */
final class TextsTest {
    public static void main(String[] args) {
        feed();
        wipe();
        items();
        players();
        tokens();
        faults();
        faultsChangeNothing();
        passesFull();
        itemByItem();
        Check.end();
    }

    private static void feed() {
        CupsAndPea x = new CupsAndPea();
        Check.due("feed none", Check.BEYOND, x.feed(1, 0));
        Check.due("feed five", Check.BEYOND, x.feed(1, 5));
        Check.due("feed -1", Check.BEYOND, x.feed(1, -1));
        Check.due("pea ", 4, x.feed('p' << 24 | 'e' << 16 | 'a' << 8 | ' ', 4));
        Check.due("only the lowest", 5, x.feed('x' << 8 | '2', 1));
        Check.due("text", 1, x.text());
        Check.due("so it begins", 2, x.now(3));
        Check.due("pe", 2, x.feed('x' << 16 | 'p' << 8 | 'e', 2));
        Check.due("a 1", 5, x.feed('x' << 24 | 'a' << 16 | ' ' << 8 | '1', 3));
        Check.due("text", 1, x.text());
        Check.due("so it begins", 1, x.now(3));
        for (int i = 1; i <= 29; i++) {
            Check.due("feed " + i, 4 * i, x.feed(-1, 4));
        }
        x.feed(0, 1);
        Check.due("one too many", Check.FULL, x.feed(0, 4));
        Check.due("beyond is asked first", Check.BEYOND, x.feed(0, 5));
        Check.due("117", 117, x.count(5));
        Check.due("120", 120, x.feed(0, 3));
        Check.due("121", Check.FULL, x.feed(0, 1));
        Check.due("120 bytes", 120, x.wipe());
    }

    private static void wipe() {
        CupsAndPea x = new CupsAndPea();
        Check.due("wipe of none", 0, x.wipe());
        Check.feed(x, "pea 1");
        Check.due("wipe", 5, x.wipe());
        Check.due("empty", 0, x.count(5));
        Check.due("nothing is there", -1, x.text());
        Check.due("nothing happened", 0, x.now(3));
    }

    private static void items() {
        CupsAndPea x = new CupsAndPea();
        x.cups(5);
        Check.due("all kinds", 7, Check.read(x,
            "pass 0 1;feint 1 2;lift 2 3;drop 3 4;whirl 4 0;slow 1 0;quick 0 4"));
        Check.due("the tape is empty", 0, x.count(5));
        for (int i = 0; i < 7; i++) {
            Check.due("kind", i, x.of(i, 0));
            Check.due("a", i < 5 ? i : i == 5 ? 1 : 0, x.of(i, 1));
            Check.due("b", i < 5 ? (i + 1) % 5 : i == 5 ? 0 : 4, x.of(i, 2));
        }
        Check.due("pea hand", 1, Check.read(x, "pea hand"));
        Check.due("so it begins", -1, x.now(3));
        Check.due("pea 4", 1, Check.read(x, "pea 4"));
        Check.due("so it begins", 4, x.now(3));
        Check.due("two eyes", 2, Check.read(x, "eye 3 slip 10;eye 1 slip 0"));
        Check.due("slip of 3", 10, x.eye(3, 0, 2));
        Check.due("slip of 1", 0, x.eye(1, 0, 2));
        Check.due("no finding", 0, x.status(-1));
    }

    private static void player(String text, int purse, int stake, int bears) {
        CupsAndPea x = new CupsAndPea();
        Check.due(text, 1, Check.read(x, text));
        int player = text.charAt(7) - '0';
        Check.due(text + ": purse", purse, x.told(player, 0));
        Check.due(text + ": stake", stake, x.told(player, 1));
        Check.due(text + ": bears", bears, x.told(player, 2));
    }

    private static void players() {
        player("player 0", 50, 4, 2);
        player("player 1 purse 9999", 9999, 4, 2);
        player("player 2 purse 0", 0, 4, 2);
        player("player 3 stake 99", 50, 99, 2);
        player("player 0 stake 1", 50, 1, 2);
        player("player 1 bears 9", 50, 4, 9);
        player("player 1 bears 1", 50, 4, 1);
        player("player 2 purse 7 bears 3", 7, 4, 3);
        player("player 2 purse 7 stake 8", 7, 8, 2);
        player("player 2 stake 8 bears 3", 50, 8, 3);
        player("player 3 purse 7 stake 8 bears 3", 7, 8, 3);
    }

    private static void tokens() {
        CupsAndPea x = new CupsAndPea();
        Check.due("no blanks", 2, Check.read(x, "pass0 1;pea2"));
        Check.due("many blanks", 2, Check.read(x, "   pass   2 0  ;  pea  1   "));
        Check.due("a", 2, x.of(1, 1));
        Check.due("noughts ahead", 1, Check.read(x, "pea 000000000000000000002"));
        Check.due("so it begins", 2, x.now(3));
        Check.due("a number and a word", 1, Check.read(x, "player0purse12stake3bears4"));
        Check.due("purse", 12, x.told(0, 0));
        Check.due("120 bytes", 1, Check.read(x, "pea 1" + " ".repeat(115)));
    }

    private static void fault(String text, int place) {
        CupsAndPea x = new CupsAndPea();
        String before = Check.state(x);
        Check.due("[" + text + "]", -1 - place, Check.read(x, text));
        Check.same("[" + text + "] changes nothing", before, Check.state(x));
        Check.due("[" + text + "] is no finding", 0, x.status(-1));
    }

    private static void faults() {
        fault("", 0);
        fault("   ", 3);
        fault(";", 0);
        fault(" ; pea 1", 1);
        fault("cup 1", 0);
        fault("passe 0 1", 0);
        fault("pas 0 1", 0);
        fault("bass 0 1", 0);
        fault("peaz 1", 0);
        fault("apea 1", 0);
        fault("Pass 0 1", 0);
        fault("3", 0);
        fault("\u0000", 0);
        fault("pea 1\n", 5);
        fault("\tpea 1", 0);
        fault("p\u00e9a 1", 0);
        fault("pea \u00b2", 4);
        fault("pass", 4);
        fault("pass ", 5);
        fault("pass 0", 6);
        fault("pass 0 ", 7);
        fault("pass 3 0", 5);
        fault("pass 0 3", 7);
        fault("pass 1 1", 7);
        fault("pass 1 01", 7);
        fault("pass 0;1", 6);
        fault("pass a 1", 5);
        fault("pass 0 1 2", 9);
        fault("pass 0 1 pass 1 2", 9);
        fault("pass -1 0", 5);
        fault("pass 4294967296 1", 5);
        fault("pass 99999999999999999999 1", 5);
        fault("pea", 3);
        fault("pea 3", 4);
        fault("pea hands", 4);
        fault("peahand", 0);
        fault("pea hand 1", 9);
        fault("pea 1;", 6);
        fault("pea 1 ; ", 8);
        fault("pea 1;;pea 2", 6);
        fault("pea 1,pea 2", 5);
        fault("eye", 3);
        fault("eye 4 slip 1", 4);
        fault("eye 0", 5);
        fault("eye 0 1", 6);
        fault("eye 0 slips 1", 6);
        fault("eye 0 slip", 10);
        fault("eye 0 slip 11", 11);
        fault("eye 0 slip slip", 11);
        fault("eye slip 1", 4);
        fault("eye 0 slip 1 eye 1 slip 1", 13);
        fault("player", 6);
        fault("player 4", 7);
        fault("player purse 3", 7);
        fault("player 0 3", 9);
        fault("player 0 purse", 14);
        fault("player 0 purse 10000", 15);
        fault("player 0 purse 99999999999", 15);
        fault("player 0 purse purse", 15);
        fault("player 0 purse 1 purse 1", 17);
        fault("player 0 stake 0", 15);
        fault("player 0 stake 100", 15);
        fault("player 0 stake 5 purse 1", 17);
        fault("player 0 bears 0", 15);
        fault("player 0 bears 10", 15);
        fault("player 0 bears 5 stake 1", 17);
        fault("player 0 slip 1", 9);
    }

    private static void faultsChangeNothing() {
        CupsAndPea x = Check.with(4, 6, 2, 3);
        x.pea(1);
        x.image();
        String before = Check.state(x);
        String[] good = {"pass 0 1", "pea 2", "pea hand", "eye 1 slip 9", "player 2 purse 1 stake 2 bears 3"};
        for (String item : good) {
            Check.due(item + "; then a fault", -1 - item.length() - 1, Check.read(x, item + ";fault"));
            Check.same(item + " changed nothing", before, Check.state(x));
        }
        Check.feed(x, "pass 0");
        x.text();
        Check.feed(x, " 1");
        Check.due("the tape was empty then", -1 - 1, x.text());
        Check.due("what is kept is as it was", 1, x.undo());
        Check.same("kept", before, Check.state(x));
    }

    private static void passesFull() {
        CupsAndPea x = new CupsAndPea();
        for (int i = 0; i < 12; i++) {
            x.pass(0, 0, 1);
        }
        Check.due("the 15th", -1 - 21, Check.read(x, "pass 0 1 ;  lift 2 0;quick 0 0"));
        Check.due("still twelve", 12, x.now(2));
        Check.due("to 14", 2, Check.read(x, "pass 0 1 ;  lift 2 0"));
        Check.due("the 15th", -1, Check.read(x, "whirl 0 1"));
        Check.due("the 15th, without numbers", -1 - 2, Check.read(x, "  whirl"));
        Check.due("others may come", 1, Check.read(x, "pea hand"));
    }

    private static void itemByItem() {
        CupsAndPea x = new CupsAndPea();
        Check.due("the latest holds", 4, Check.read(x, "pea 1;pea 2;eye 0 slip 3;eye 0 slip 4"));
        Check.due("pea", 2, x.now(3));
        Check.due("slip", 4, x.eye(0, 0, 4));
        Check.due("again with what was told before", 1, Check.read(x, "player 0 stake 7"));
        Check.due("and more", 1, Check.read(x, "player 0 bears 7"));
        Check.due("stake", 7, x.told(0, 1));
        Check.due("places of the cups there are", -5, Check.read(x, "pea 5"));
        x.cups(6);
        Check.due("places of six cups", 1, Check.read(x, "pea 5"));
        Check.due("24 items", 24, Check.read(x, "pea0;".repeat(23) + "pea2"));
    }
}

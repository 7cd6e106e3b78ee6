import java.util.ArrayList;
import java.util.Arrays;
import java.util.List;

/**
 * Promise 39 and what is said of TEXTS, place by place: each item is cut off behind each of its tokens, and each token is
 * put that can't stand in a place; what may stand there is written by hand.
 */
final class FaultsTest {
    /** Words, signs and bytes that stand in the place of another token, and numbers as great as can be and more. */
    private static final String[] TOKENS = {"pass", "feint", "lift", "drop", "whirl", "slow", "quick", "pea", "hand", "eye",
        "slip", "player", "purse", "stake", "bears", "a", "z", "pas", "passs", "hands", "slips", "0", "1", "2", "3", "4", "5",
        "9", "10", "11", "99", "100", "9999", "10000", "99999", "2147483648", "4294967296", "4294967297",
        "18446744073709551616", "00", "01", "0000000000000000000002", ";", ",", "-", "+", "A", "Z", "/", ":", "`", "{", "\n",
        "\t", "\u0000", "\u007f", "\u0080", "\u00a0", "\u00e9", "\u00ff"};

    public static void main(String[] args) {
        for (int cups = 3; cups <= 6; cups++) {
            passes(cups);
            pea(cups);
            eye(cups);
            players(cups);
            starts(cups);
        }
        bytes();
        fifteenth();
        full();
        howManyItems();
        Check.end();
    }

    private static String[] numbers(int least, int most) {
        List<String> all = new ArrayList<>();
        for (String token : TOKENS) {
            if (token.matches("[0-9]+") && token.replaceFirst("^0+(?=.)", "").length() <= 4
                && Integer.parseInt(token) >= least && Integer.parseInt(token) <= most) {
                all.add(token);
            }
        }
        return all.toArray(new String[0]);
    }

    private static String[] but(String[] some, String... others) {
        List<String> all = new ArrayList<>(Arrays.asList(some));
        all.removeAll(Arrays.asList(others));
        return all.toArray(new String[0]);
    }

    private static CupsAndPea withCups(int cups) {
        CupsAndPea x = new CupsAndPea();
        x.cups(cups);
        return x;
    }

    /** The fault is there; nothing has changed but that the tape is empty, and it is no finding. */
    private static void fault(int cups, String text, int place) {
        CupsAndPea x = withCups(cups);
        String before = Check.state(x);
        Check.due("[" + text + "], cups " + cups, -1 - place, Check.read(x, text));
        Check.same("[" + text + "] changes nothing", before, Check.state(x));
        Check.due("[" + text + "] is no finding", 0, x.status(-1));
    }

    /**
     * Behind these tokens comes one more: those that may stand there are no fault, or theirs is a later one; all others
     * are; and, if something must stand there, so is the end.
     */
    private static void place(int cups, String before, boolean mayEnd, String... may) {
        for (String ahead : new String[] {"", " ", "pea 0;", "eye 1 slip 3 ; "}) {
            String text = ahead + before;
            for (String token : TOKENS) {
                if (!Arrays.asList(may).contains(token)) {
                    fault(cups, text + " " + token, text.length() + 1);
                    fault(cups, text + "  " + token + " 1", text.length() + 2);
                } else {
                    int answer = Check.read(withCups(cups), text + " " + token);
                    int end = text.length() + 1 + token.length();
                    Check.due("[" + text + " " + token + "] may be", 1, answer > 0 || answer == -1 - end ? 1 : 0);
                }
            }
            if (mayEnd) {
                Check.due("[" + text + "] is whole", ahead.contains(";") ? 2 : 1, Check.read(withCups(cups), text));
                Check.due("[" + text + "] is whole", ahead.contains(";") ? 2 : 1, Check.read(withCups(cups), text + "  "));
            } else {
                fault(cups, text, text.length());
                fault(cups, text + "  ", text.length() + 2);
            }
        }
    }

    private static void passes(int cups) {
        for (String kind : new String[] {"pass", "feint", "lift", "drop", "whirl", "slow", "quick"}) {
            String[] places = numbers(0, cups - 1);
            place(cups, kind, false, places);
            place(cups, kind + " 0", false, but(places, "0", "00"));
            place(cups, kind + " 1", false, but(places, "1", "01"));
            place(cups, kind + " 2", false, but(places, "2", "0000000000000000000002"));
            place(cups, kind + " 1 0", true, ";");
        }
    }

    private static void pea(int cups) {
        String[] places = Arrays.copyOf(numbers(0, cups - 1), numbers(0, cups - 1).length + 1);
        places[places.length - 1] = "hand";
        place(cups, "pea", false, places);
        place(cups, "pea 2", true, ";");
        place(cups, "pea hand", true, ";");
    }

    private static void eye(int cups) {
        place(cups, "eye", false, numbers(0, 3));
        place(cups, "eye 3", false, "slip");
        place(cups, "eye 3 slip", false, numbers(0, 10));
        place(cups, "eye 3 slip 10", true, ";");
    }

    private static void players(int cups) {
        place(cups, "player", false, numbers(0, 3));
        place(cups, "player 0", true, ";", "purse", "stake", "bears");
        place(cups, "player 0 purse", false, numbers(0, 9999));
        place(cups, "player 0 stake", false, numbers(1, 99));
        place(cups, "player 0 bears", false, numbers(1, 9));
        place(cups, "player 0 purse 9999", true, ";", "stake", "bears");
        place(cups, "player 0 purse 0 stake", false, numbers(1, 99));
        place(cups, "player 0 purse 0 bears", false, numbers(1, 9));
        place(cups, "player 0 stake 99", true, ";", "bears");
        place(cups, "player 0 purse 1 stake 1", true, ";", "bears");
        place(cups, "player 0 stake 1 bears", false, numbers(1, 9));
        place(cups, "player 0 purse 1 stake 1 bears", false, numbers(1, 9));
        place(cups, "player 0 bears 9", true, ";");
        place(cups, "player 0 purse 1 stake 1 bears 1", true, ";");
    }

    private static void starts(int cups) {
        String[] items = {"pass", "feint", "lift", "drop", "whirl", "slow", "quick", "pea", "eye", "player"};
        place(cups, "", false, items);
        place(cups, "pea 1;", false, items);
    }

    /** Each byte where a number is looked for, behind one, and inside a word. */
    private static void bytes() {
        for (int b = 0; b < 256; b++) {
            char sign = (char) b;
            boolean isDigit = sign >= '0' && sign <= '9';
            boolean isLetter = sign >= 'a' && sign <= 'z';
            CupsAndPea x = new CupsAndPea();
            Check.due("pea 1 and byte " + b, sign == ' ' ? 1 : isDigit ? -1 - 4 : sign == ';' ? -1 - 6 : -1 - 5,
                Check.read(x, "pea 1" + sign));
            // pea and such a place; two tokens otherwise.
            Check.due("pea, byte " + b + ", 1", sign == ' ' || sign == '0' ? 1 : isLetter ? -1 : -1 - 3,
                Check.read(x, "pea" + sign + "1"));
            Check.due("pe, byte " + b + ", a", -1, Check.read(x, "pe" + sign + "a 1"));
            Check.due("byte " + b, sign == ' ' ? -1 - 1 : -1, Check.read(x, "" + sign));
        }
        CupsAndPea y = new CupsAndPea();
        for (int i = 0; i < 4; i++) {
            y.feed("pea1".charAt(i) | 0x7fffff00, 1);
        }
        Check.due("only the lowest byte is read", 1, y.text());
    }

    /** The word of a 15th pass is the fault, whatever comes behind it. */
    private static void fifteenth() {
        String[] kinds = {"pass", "feint", "lift", "drop", "whirl", "slow", "quick"};
        for (int there = 12; there <= 14; there++) {
            for (String kind : kinds) {
                for (String behind : new String[] {"", " 0", " 0 1", " 9 9", ";", " hand", "\u0000"}) {
                    CupsAndPea x = new CupsAndPea();
                    for (int i = 0; i < there; i++) {
                        x.pass(0, 0, 1);
                    }
                    String text = "lift 0 1;".repeat(14 - there) + "pea 1;  ";
                    Check.due(kind + behind + " behind " + there, -1 - text.length(), Check.read(x, text + kind + behind));
                    Check.due("none came", there, x.now(2));
                    Check.due("nor the pea", 0, x.now(3));
                    Check.due("up to 14", 15 - there, Check.read(x, "drop 1 0;".repeat(14 - there) + "pea 1"));
                    Check.due("came", 14, x.now(2));
                }
            }
        }
    }

    /** 120 bytes are read to the last one. */
    private static void full() {
        CupsAndPea x = new CupsAndPea();
        Check.due("119 bytes", 119, fed(x, "pea1;".repeat(22) + "eye0slip9"));
        Check.due("are read", 23, x.text());
        Check.due("to the last", 9, x.eye(0, 0, 2));
        Check.due("120 bytes", 120, fed(x, "pea1;".repeat(22) + "eye0slip10"));
        Check.due("are read", 23, x.text());
        Check.due("to the last", 10, x.eye(0, 0, 2));
        Check.due("121 bytes don't come", 120, fed(x, "pea1;".repeat(22) + " eye0slip10"));
        Check.due("but the rest may be a text", 23, x.text());
        Check.due("without the last", 1, x.eye(0, 0, 2));
        Check.due("an item cut off", 120, fed(x, "pea 1;".repeat(19) + "pass 0"));
        Check.due("it ends too early", -1 - 120, x.text());
        Check.due("an item with a wrong word", 120, fed(x, "pea 2;".repeat(19) + "pea  x"));
        Check.due("a fault at the last byte", -1 - 119, x.text());
        Check.due("one item of 120 bytes", 120, fed(x, "pea" + "0".repeat(116) + "2"));
        Check.due("it is read", 1, x.text());
        Check.due("so it begins", 2, x.now(3));
        Check.due("one word", 120, fed(x, "p".repeat(120)));
        Check.due("is none", -1, x.text());
        Check.due("one number", 120, fed(x, "9".repeat(120)));
        Check.due("is none", -1, x.text());
        Check.due("signs alone", 120, fed(x, ";".repeat(120)));
        Check.due("are none", -1, x.text());
        Check.due("blanks alone", 120, fed(x, " ".repeat(120)));
        Check.due("end too early", -1 - 120, x.text());
    }

    private static int fed(CupsAndPea x, String text) {
        Check.feed(x, text);
        return x.count(5);
    }

    /** One item, two, and as many as there can be. */
    private static void howManyItems() {
        CupsAndPea x = new CupsAndPea();
        for (int items = 1; items <= 24; items++) {
            Check.due(items + " items", items, Check.read(x, "pea1;".repeat(items - 1) + "pea2"));
            Check.due("the last holds", 2, x.pea(0));
        }
        Check.due("fourteen passes need more than a tape", 13, Check.read(x, "slow 0 1;".repeat(12) + "slow 0 1"));
        Check.due("thirteen", 13, x.now(2));
        Check.due("without blanks", 1, Check.read(x, "drop0 1"));
        Check.due("fourteen", 14, x.now(2));
    }
}

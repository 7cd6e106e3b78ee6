import java.lang.reflect.InvocationTargetException;
import java.lang.reflect.Method;
import java.lang.reflect.Modifier;
import java.util.ArrayList;
import java.util.HashMap;
import java.util.List;
import java.util.Map;
import java.util.Random;

/** Random runs of 512 calls, the same ones each time, on the program and on Model: each answer must be the same. */
final class RandomTest {
    private static final int RUNS = 400;
    private static final int CALLS = 512;

    /** How often a call comes, and what its arguments are: the greatest of each, from least on. */
    private static final String[] CALLS_AND_ARGUMENTS = {
        "1 cups 3-6", "2 pea -1-5", "9 pass 0-6 0-5 0-5", "1 of 0-13 0-3", "2 change 0-13 0-6", "5 back", "2 where 0-14",
        "2 goes 0-5 0-14", "1 moves", "4 eye 0-3 0-1 0-10", "3 weight 0-3 0-14 0-5", "2 guess 0-3", "2 right 0-3",
        "2 lost 0-3", "3 both 0-3 0-3", "2 may 0-3", "2 watch 0-3", "2 feint 0-3", "2 kindFor 0-3 0-13",
        "2 misled 0-3 1-2 0-6", "2 row 0-3 1-2 0-6 0-1", "1 feints -1-5", "1 surely -1-5 0-2", "1 rings", "1 orders -1-5",
        "4 player 0-3 0-2 0-99", "2 player 0-3 2-2 1-9", "3 told 0-3 0-4", "4 round 0-3 0-1", "2 play 0-3 0-3",
        "2 best 0-3 1-10", "2 should 0-3 1-10", "1 richest 1-10", "3 now 0-4", "1 shuffle 1-12", "1 seed 0-9999999",
        "1 feed 0-99999999 1-4", "1 wipe", "2 text", "3 hold 0-9 -1-13", "6 as 0-9 0-6", "2 sheet 0-3 8-8 0-40",
        "2 sheet 0-3 16-16 0-40", "1 sheet 0-3 32-32 0-40", "1 sheet 0-3 0-0 0-40", "1 sheet 0-3 0-40 0-40",
        "3 write 0-3 0-9 -1-6", "2 write 0-3 0-39 -99999-99999", "4 copy 0-3 0-9 0-3 0-9 0-9", "1 copy 0-3 0-39 0-3 0-39 0-39",
        "3 load 0-3", "3 judge 0-3", "2 image", "1 undo", "1 tear", "1 count 0-7", "2 status -1-6"};

    private static final String[] WORDS = {"pass", "feint", "lift", "drop", "whirl", "slow", "quick", "pea", "hand", "eye",
        "slip", "player", "purse", "stake", "bears", "0", "1", "2", "3", "00", "10", "99", "100", "9999", "10000",
        "99999999999", ";", " ", "A", "cup", "\u00e9"};

    private final Random random = new Random(20261118L);
    private final Map<String, Method> program = methods(CupsAndPea.class);
    private final Map<String, Method> model = methods(Model.class);
    private final List<String[]> calls = new ArrayList<>();

    public static void main(String[] args) throws Exception {
        new RandomTest().run();
        Check.end();
    }

    private static Map<String, Method> methods(Class<?> of) {
        Map<String, Method> found = new HashMap<>();
        for (Method m : of.getDeclaredMethods()) {
            if (!Modifier.isPrivate(m.getModifiers()) && !Modifier.isStatic(m.getModifiers())) {
                found.put(m.getName(), m);
            }
        }
        return found;
    }

    private void run() throws Exception {
        for (String line : CALLS_AND_ARGUMENTS) {
            String[] parts = line.split(" ");
            for (int i = 0; i < Integer.parseInt(parts[0]); i++) {
                calls.add(parts);
            }
        }
        for (int r = 0; r < RUNS; r++) {
            oneRun(r);
        }
    }

    private void oneRun(int run) throws Exception {
        CupsAndPea x = new CupsAndPea();
        Model m = new Model();
        List<String> story = new ArrayList<>();
        int cups = random.nextInt(4) + 3;
        boolean agree = call(x, m, "cups", new int[] {cups}, story);
        for (int i = 1; i < CALLS && agree; i++) {
            if (i + 31 < CALLS && random.nextInt(40) == 0) {
                for (byte b : text(cups).getBytes(java.nio.charset.StandardCharsets.ISO_8859_1)) {
                    agree &= call(x, m, "feed", new int[] {b, 1}, story);
                    i++;
                }
                agree &= call(x, m, "text", new int[0], story);
                continue;
            }
            String[] parts = calls.get(random.nextInt(calls.size()));
            int[] arguments = new int[parts.length - 2];
            for (int a = 0; a < arguments.length; a++) {
                arguments[a] = argument(parts[a + 2]);
            }
            agree = call(x, m, parts[1], arguments, story);
        }
        if (!agree) {
            Check.fail("run " + run + ": " + String.join(" ", story));
        }
    }

    private int argument(String range) {
        int dash = range.indexOf('-', 1);
        int low = Integer.parseInt(range.substring(0, dash));
        int high = Integer.parseInt(range.substring(dash + 1));
        if (random.nextInt(60) == 0) {
            return new int[] {low - 1, high + 1, -1, 0, 1, Integer.MIN_VALUE, Integer.MAX_VALUE, random.nextInt()}[random.nextInt(8)];
        }
        // Small ones come more often, so that what they name is there.
        int wide = high - low + 1;
        return low + (random.nextBoolean() ? random.nextInt(wide) : random.nextInt(Math.min(wide, 4)));
    }

    private String text(int cups) {
        StringBuilder text = new StringBuilder();
        int items = random.nextInt(4) + 1;
        for (int i = 0; i < items; i++) {
            text.append(i > 0 ? random.nextInt(15) == 0 ? " " : ";" : "").append(item(cups));
        }
        if (random.nextInt(3) == 0) {
            int at = random.nextInt(text.length() + 1);
            text.insert(at, WORDS[random.nextInt(WORDS.length)]);
        }
        if (random.nextInt(6) == 0) {
            text.setLength(random.nextInt(text.length() + 1));
        }
        return text.length() > 60 ? text.substring(0, 60) : text.toString();
    }

    private String item(int cups) {
        String blank = random.nextBoolean() ? " " : "  ";
        int a = random.nextInt(cups);
        int b = random.nextInt(8) == 0 ? random.nextInt(7) : (a + 1) % cups;
        switch (random.nextInt(6)) {
            case 0:
                return "pea" + blank + (random.nextInt(3) == 0 ? "hand" : "" + a);
            case 1:
                return "eye " + random.nextInt(4) + "slip" + random.nextInt(11);
            case 2:
                return "player" + random.nextInt(4) + (random.nextBoolean() ? " purse " + random.nextInt(300) : "")
                    + (random.nextBoolean() ? " stake" + (1 + random.nextInt(99)) : "")
                    + (random.nextBoolean() ? " bears" + blank + (1 + random.nextInt(9)) : "");
            default:
                return WORDS[random.nextInt(7)] + blank + a + " " + b;
        }
    }

    /** One call on both: whether they agree. */
    private boolean call(CupsAndPea x, Model m, String name, int[] arguments, List<String> story) throws Exception {
        Object[] boxed = new Object[arguments.length];
        StringBuilder told = new StringBuilder(name).append('(');
        for (int i = 0; i < boxed.length; i++) {
            boxed[i] = arguments[i];
            told.append(i > 0 ? ", " : "").append(arguments[i]);
        }
        story.add(told.append(");").toString());
        long want;
        try {
            want = ((Number) model.get(name).invoke(m, boxed)).longValue();
        } catch (InvocationTargetException e) {
            if (!(e.getCause() instanceof Model.Finding)) {
                throw e;
            }
            want = ((Model.Finding) e.getCause()).number;
            m.findings[Check.BEYOND - (int) want]++;
        }
        long got = ((Number) program.get(name).invoke(x, boxed)).longValue();
        Check.due(told.toString(), want, got);
        return want == got;
    }
}

import java.util.ArrayList;
import java.util.Arrays;
import java.util.List;
import java.util.regex.Matcher;
import java.util.regex.Pattern;

/**
 * The document once more, in another way: kinds are classes, findings are thrown, questions are answered by trying all.
 * RandomTest compares it with the program.
 */
final class Model {

    static final class Finding extends RuntimeException {
        final int number;

        Finding(int number) {
            super(null, null, false, false);
            this.number = number;
        }
    }

    // Kinds: what each one overrides is what the document says of it; the rest is of the kind above.

    static class Pass {
        int does(int at, int a, int b, boolean isPea) {
            return at == a ? b : at == b ? a : at;
        }

        int looks(int a, int b) {
            return b;
        }

        int slips(int slip) {
            return slip;
        }
    }

    static class Feint extends Pass {
        @Override
        int does(int at, int a, int b, boolean isPea) {
            return at;
        }
    }

    static final class Whirl extends Feint {
        static int free(int a, int b) {
            int c = 0;
            while (c == a || c == b) {
                c++;
            }
            return c;
        }

        @Override
        int does(int at, int a, int b, boolean isPea) {
            List<Integer> ring = Arrays.asList(a, b, free(a, b), a);
            int i = ring.indexOf(at);
            return i < 0 ? at : ring.get(i + 1);
        }

        @Override
        int looks(int a, int b) {
            return free(a, b);
        }
    }

    static class Lift extends Pass {
        @Override
        int does(int at, int a, int b, boolean isPea) {
            return isPea && at == a ? -1 : super.does(at, a, b, isPea);
        }
    }

    static final class Drop extends Lift {
        @Override
        int does(int at, int a, int b, boolean isPea) {
            if (isPea && at == -1) {
                return b;
            }
            return new Pass().does(at, a, b, isPea);
        }
    }

    static class Slow extends Pass {
        @Override
        int slips(int slip) {
            return 0;
        }
    }

    static final class Quick extends Slow {
        @Override
        int slips(int slip) {
            return 2 * slip > 10 ? 10 : 2 * slip;
        }
    }

    static final Pass[] KINDS = {new Pass(), new Feint(), new Lift(), new Drop(), new Whirl(), new Slow(), new Quick()};

    static final class State {
        int cups = 3;
        int begin = 0;
        int taken = 0;
        int z = 1;
        List<int[]> passes = new ArrayList<>();
        int[][] eyes = {{2, 0}, {2, 0}, {2, 0}, {2, 0}};
        int[][] players = {{50, 4, 2, 0}, {50, 4, 2, 0}, {50, 4, 2, 0}, {50, 4, 2, 0}};
        int[] spots = new int[10];

        State() {
            Arrays.fill(spots, -1);
        }

        State twin() {
            State twin = new State();
            twin.cups = cups;
            twin.begin = begin;
            twin.taken = taken;
            twin.z = z;
            for (int[] pass : passes) {
                twin.passes.add(pass.clone());
            }
            for (int i = 0; i < 4; i++) {
                twin.eyes[i] = eyes[i].clone();
                twin.players[i] = players[i].clone();
            }
            twin.spots = spots.clone();
            return twin;
        }
    }

    State s = new State();
    State kept = null;
    String tape = "";
    int[][] sheets = new int[4][];
    int[] bits = new int[4];
    int[] findings = new int[7];

    private static void need(boolean holds, int finding) {
        if (!holds) {
            throw new Finding(finding);
        }
    }

    private static void range(long v, long low, long high) {
        need(low <= v && v <= high, Check.BEYOND);
    }

    private void knownPass(int pass) {
        range(pass, 0, s.passes.size() - 1);
    }

    int cups(int n) {
        range(n, 3, 6);
        need(s.passes.isEmpty(), Check.STATE);
        int was = s.cups;
        s.cups = n;
        s.begin = s.begin < n ? s.begin : 0;
        for (int[] eye : s.eyes) {
            eye[1] = eye[1] < n ? eye[1] : 0;
        }
        return was;
    }

    int pea(int place) {
        range(place, -1, s.cups - 1);
        int was = s.begin;
        s.begin = place;
        return was;
    }

    int pass(int kind, int a, int b) {
        range(kind, 0, 6);
        range(a, 0, s.cups - 1);
        range(b, 0, s.cups - 1);
        need(a != b, Check.BEYOND);
        need(s.passes.size() < 14, Check.FULL);
        s.passes.add(new int[] {kind, a, b});
        return s.passes.size() - 1;
    }

    int of(int pass, int what) {
        knownPass(pass);
        range(what, 0, 3);
        int[] p = s.passes.get(pass);
        return what < 3 ? p[what] : KINDS[p[0]].looks(p[1], p[2]);
    }

    int change(int pass, int v) {
        knownPass(pass);
        range(v, 0, 6);
        int was = s.passes.get(pass)[0];
        s.passes.get(pass)[0] = v;
        return was;
    }

    int back() {
        need(!s.passes.isEmpty(), Check.NONE);
        s.passes.remove(s.passes.size() - 1);
        return s.passes.size();
    }

    private static int follow(List<int[]> passes, int from, boolean isPea) {
        int at = from;
        for (int[] p : passes) {
            at = KINDS[p[0]].does(at, p[1], p[2], isPea);
        }
        return at;
    }

    private int endOf(List<int[]> passes) {
        return follow(passes, s.begin, true);
    }

    int where(int k) {
        range(k, 0, s.passes.size());
        return endOf(s.passes.subList(0, k));
    }

    int goes(int place, int k) {
        range(place, 0, s.cups - 1);
        range(k, 0, s.passes.size());
        return follow(s.passes.subList(0, k), place, false);
    }

    int moves() {
        int set = 0;
        for (int k = 0; k < s.passes.size(); k++) {
            set += where(k) == where(k + 1) ? 0 : 1 << k;
        }
        return set;
    }

    int eye(int eye, int what, int v) {
        range(eye, 0, 3);
        range(what, 0, 1);
        range(v, 0, what == 0 ? 10 : s.cups - 1);
        int was = s.eyes[eye][what];
        s.eyes[eye][what] = v;
        return was;
    }

    /** Moves each weight on to where it would be thought to be; the program asks each place where from. */
    private long[] weights(int eye, List<int[]> passes, int watched) {
        long[] w = new long[s.cups];
        w[s.eyes[eye][1]] = 1;
        for (int i = 0; i < passes.size(); i++) {
            int[] p = passes.get(i);
            Pass kind = KINDS[p[0]];
            int slip = i == watched ? 0 : kind.slips(s.eyes[eye][0]);
            int x = p[1];
            int y = kind.looks(p[1], p[2]);
            int z = (y + 1) % s.cups;
            z = z == x ? (z + 1) % s.cups : z;
            long[] then = new long[s.cups];
            for (int place = 0; place < s.cups; place++) {
                then[place == x ? y : place == y ? x : place] += (10 - slip) * w[place];
                then[place == x ? z : place == z ? x : place] += slip * w[place];
            }
            w = then;
        }
        return w;
    }

    private static int top(long[] w) {
        int best = 0;
        for (int i = 0; i < w.length; i++) {
            best = w[i] > w[best] ? i : best;
        }
        return best;
    }

    private long rightOf(int eye, List<int[]> passes, int watched) {
        int pea = endOf(passes);
        return pea < 0 ? 0 : weights(eye, passes, watched)[pea];
    }

    long weight(int eye, int k, int place) {
        range(eye, 0, 3);
        range(k, 0, s.passes.size());
        range(place, 0, s.cups - 1);
        return weights(eye, s.passes.subList(0, k), -1)[place];
    }

    int guess(int eye) {
        range(eye, 0, 3);
        return top(weights(eye, s.passes, -1));
    }

    long right(int eye) {
        range(eye, 0, 3);
        return rightOf(eye, s.passes, -1);
    }

    int lost(int eye) {
        range(eye, 0, 3);
        for (int k = 0; k <= s.passes.size(); k++) {
            if (top(weights(eye, s.passes.subList(0, k), -1)) != where(k)) {
                return k;
            }
        }
        throw new Finding(Check.NONE);
    }

    int both(int one, int other) {
        range(one, 0, 3);
        range(other, 0, 3);
        need(one != other, Check.BEYOND);
        need(s.passes.size() <= 9, Check.SIZE);
        long[] w = weights(one, s.passes, -1);
        long[] v = weights(other, s.passes, -1);
        for (int i = 0; i < w.length; i++) {
            w[i] *= v[i];
        }
        need(w[top(w)] > 0, Check.NONE);
        return top(w);
    }

    int may(int eye) {
        range(eye, 0, 3);
        long[] w = weights(eye, s.passes, -1);
        int set = 0;
        for (int i = 0; i < w.length; i++) {
            set += w[i] != 0 ? 1 << i : 0;
        }
        return set;
    }

    private List<int[]> passesWith(int pass, int kind) {
        List<int[]> with = new ArrayList<>(s.passes);
        with.set(pass, new int[] {kind, s.passes.get(pass)[1], s.passes.get(pass)[2]});
        return with;
    }

    int watch(int eye) {
        range(eye, 0, 3);
        need(!s.passes.isEmpty(), Check.NONE);
        int best = 0;
        for (int i = 1; i < s.passes.size(); i++) {
            best = rightOf(eye, s.passes, i) > rightOf(eye, s.passes, best) ? i : best;
        }
        return best;
    }

    int feint(int eye) {
        range(eye, 0, 3);
        need(!s.passes.isEmpty(), Check.NONE);
        int best = 0;
        for (int i = 1; i < s.passes.size(); i++) {
            best = rightOf(eye, passesWith(i, 1), -1) < rightOf(eye, passesWith(best, 1), -1) ? i : best;
        }
        return best;
    }

    int kindFor(int eye, int pass) {
        range(eye, 0, 3);
        knownPass(pass);
        int best = 0;
        for (int k = 1; k < 7; k++) {
            best = rightOf(eye, passesWith(pass, k), -1) < rightOf(eye, passesWith(pass, best), -1) ? k : best;
        }
        return best;
    }

    private long[] misleading(int eye, int n, int k) {
        List<Integer> pairs = new ArrayList<>();
        for (int a = 0; a < s.cups; a++) {
            for (int b = a + 1; b < s.cups; b++) {
                pairs.add(10 * a + b);
            }
        }
        int rows = 1;
        for (int i = 0; i < n; i++) {
            rows *= pairs.size();
        }
        long least = Long.MAX_VALUE;
        long[] best = new long[n + 1];
        for (int row = 0; row < rows; row++) {
            List<int[]> all = new ArrayList<>(s.passes);
            long[] told = new long[n + 1];
            int rest = row;
            for (int i = n - 1; i >= 0; i--) {
                told[i] = pairs.get(rest % pairs.size());
                rest /= pairs.size();
            }
            for (int i = 0; i < n; i++) {
                all.add(new int[] {k, (int) told[i] / 10, (int) told[i] % 10});
            }
            long right = rightOf(eye, all, -1);
            if (right < least) {
                least = right;
                best = told;
                best[n] = right;
            }
        }
        return best;
    }

    long misled(int eye, int n, int k) {
        range(eye, 0, 3);
        range(n, 1, 4);
        range(k, 0, 6);
        need(s.passes.size() + n <= 14, Check.FULL);
        return misleading(eye, n, k)[n];
    }

    int row(int eye, int n, int k, int i) {
        range(eye, 0, 3);
        range(n, 1, 4);
        range(k, 0, 6);
        range(i, 0, n - 1);
        need(s.passes.size() + n <= 14, Check.FULL);
        return (int) misleading(eye, n, k)[i];
    }

    private List<Integer> feintSets(int place) {
        List<Integer> sets = new ArrayList<>();
        int first = Math.min(10, s.passes.size());
        for (int set = 0; set < 1 << first; set++) {
            List<int[]> with = new ArrayList<>();
            for (int i = 0; i < s.passes.size(); i++) {
                int[] p = s.passes.get(i);
                with.add((set >> i) % 2 == 1 ? new int[] {1, p[1], p[2]} : p);
            }
            if (endOf(with) == place) {
                sets.add(set);
            }
        }
        return sets;
    }

    int feints(int place) {
        range(place, -1, s.cups - 1);
        return feintSets(place).size();
    }

    int surely(int place, int what) {
        range(place, -1, s.cups - 1);
        range(what, 0, 2);
        List<Integer> sets = feintSets(place);
        need(!sets.isEmpty(), Check.NONE);
        int all = -1;
        int any = 0;
        for (int set : sets) {
            all &= set;
            any |= set;
        }
        return what == 0 ? sets.get(0) : what == 1 ? all : any;
    }

    int rings() {
        double sum = 0;
        for (int[] p : s.passes) {
            sum += Math.pow(15, p[1]) + Math.pow(15, KINDS[p[0]].looks(p[1], p[2]));
        }
        return (int) Math.round(sum);
    }

    private int ordersFrom(List<int[]> left, int at, int place) {
        if (left.isEmpty()) {
            return at == place ? 1 : 0;
        }
        int sum = 0;
        for (int i = 0; i < left.size(); i++) {
            List<int[]> rest = new ArrayList<>(left);
            int[] p = rest.remove(i);
            sum += ordersFrom(rest, KINDS[p[0]].does(at, p[1], p[2], true), place);
        }
        return sum;
    }

    int orders(int place) {
        range(place, -1, s.cups - 1);
        need(s.passes.size() <= 7, Check.SIZE);
        return ordersFrom(s.passes, s.begin, place);
    }

    int player(int player, int what, int v) {
        range(player, 0, 3);
        range(what, 0, 2);
        range(v, what == 0 ? 0 : 1, what == 0 ? 9999 : what == 1 ? 99 : 9);
        int was = s.players[player][what];
        s.players[player][what] = v;
        return was;
    }

    private static boolean left(int[] p) {
        return p[3] >= p[2] || p[0] == 0;
    }

    int told(int player, int what) {
        range(player, 0, 3);
        range(what, 0, 4);
        return what < 4 ? s.players[player][what] : left(s.players[player]) ? 1 : 0;
    }

    /** One round on these numbers: what the man gets. */
    private static int rounds(int[] p, boolean win) {
        int staked = p[1] < p[0] ? p[1] : p[0];
        if (win) {
            p[0] += staked;
            p[1] = p[1] * 2 > 99 ? 99 : p[1] * 2;
            p[3] = 0;
            return -staked;
        }
        p[0] -= staked;
        p[1] = p[1] < 2 ? 1 : p[1] / 2;
        p[3]++;
        return staked;
    }

    int round(int player, int win) {
        range(player, 0, 3);
        range(win, 0, 1);
        need(!left(s.players[player]), Check.STATE);
        int got = rounds(s.players[player], win == 1);
        s.taken += got;
        return Math.abs(got);
    }

    int play(int player, int eye) {
        range(player, 0, 3);
        range(eye, 0, 3);
        need(!left(s.players[player]), Check.STATE);
        boolean won = guess(eye) == where(s.passes.size());
        s.taken += rounds(s.players[player], won);
        return won ? 1 : 0;
    }

    /** The most over all rows of n wins and losses, each stopped wherever it brings most; first: -1 any, else given. */
    private int most(int player, int n, int first) {
        int best = first < 0 ? 0 : Integer.MIN_VALUE;
        for (int row = 0; row < 1 << n; row++) {
            if (first >= 0 && row % 2 != first) {
                continue;
            }
            int[] p = s.players[player].clone();
            int sum = 0;
            for (int i = 0; i < n && !left(p); i++) {
                sum += rounds(p, (row >> i) % 2 == 1);
                best = Math.max(best, sum);
            }
        }
        return best;
    }

    int best(int player, int n) {
        range(player, 0, 3);
        range(n, 1, 10);
        return most(player, n, -1);
    }

    int should(int player, int n) {
        range(player, 0, 3);
        range(n, 1, 10);
        if (most(player, n, -1) == 0) {
            return -1;
        }
        return most(player, n, 1) > most(player, n, 0) ? 1 : 0;
    }

    int richest(int n) {
        range(n, 1, 10);
        int best = 0;
        for (int i = 1; i < 4; i++) {
            best = most(i, n, -1) > most(best, n, -1) ? i : best;
        }
        return best;
    }

    int now(int what) {
        range(what, 0, 4);
        int gone = 0;
        for (int i = 0; i < 4; i++) {
            gone += left(s.players[i]) ? 1 << i : 0;
        }
        return new int[] {s.taken, s.cups, s.passes.size(), s.begin, gone}[what];
    }

    private int draw() {
        s.z = s.z * 1103515245 + 12345;
        return s.z >>> 8;
    }

    int shuffle(int n) {
        range(n, 1, 12);
        need(s.passes.size() + n <= 14, Check.FULL);
        for (int i = 0; i < n; i++) {
            int kind = draw() % 7;
            int a = draw() % s.cups;
            int b = (a + draw() % (s.cups - 1) + 1) % s.cups;
            s.passes.add(new int[] {kind, a, b});
        }
        return endOf(s.passes);
    }

    int seed(int v) {
        int was = s.z;
        s.z = v;
        return was;
    }

    int feed(int bytes, int n) {
        range(n, 1, 4);
        need(tape.length() + n <= 120, Check.FULL);
        for (int i = n - 1; i >= 0; i--) {
            tape += (char) (bytes >> 8 * i & 255);
        }
        return tape.length();
    }

    int wipe() {
        int had = tape.length();
        tape = "";
        return had;
    }

    // Texts: a row of tokens, read by the shape of an item.

    private static final Pattern TOKEN = Pattern.compile("\\G *([a-z]+|[0-9]+|;|[^ ])", Pattern.DOTALL);

    private final class Tokens {
        final List<String> words = new ArrayList<>();
        final List<Integer> places = new ArrayList<>();
        int at = 0;

        Tokens() {
            Matcher m = TOKEN.matcher(tape);
            while (m.find()) {
                words.add(m.group(1));
                places.add(m.start(1));
            }
            words.add("");
            places.add(tape.length());
        }

        String look() {
            return words.get(at);
        }

        void expect(boolean fits) {
            if (!fits) {
                throw new Finding(-1 - places.get(at));
            }
            at++;
        }

        int number(int low, int high) {
            String w = look();
            boolean fits = w.matches("[0-9]+") && w.replaceFirst("^0+", "").length() <= 4
                && Integer.parseInt("0" + w.replaceFirst("^0+", "")) >= low
                && Integer.parseInt("0" + w.replaceFirst("^0+", "")) <= high;
            expect(fits);
            return Integer.parseInt("0" + w.replaceFirst("^0+", ""));
        }
    }

    private static final List<String> NAMES = Arrays.asList("pass", "feint", "lift", "drop", "whirl", "slow", "quick");

    private void item(Tokens t) {
        String w = t.look();
        if (NAMES.contains(w)) {
            t.expect(s.passes.size() < 14);
            int a = t.number(0, s.cups - 1);
            t.expect(t.look().matches("0*" + a) ? false : true);
            t.at--;
            int b = t.number(0, s.cups - 1);
            s.passes.add(new int[] {NAMES.indexOf(w), a, b});
            return;
        }
        t.expect(Arrays.asList("pea", "eye", "player").contains(w));
        if (w.equals("pea") && t.look().equals("hand")) {
            t.at++;
            s.begin = -1;
        } else if (w.equals("pea")) {
            s.begin = t.number(0, s.cups - 1);
        } else if (w.equals("eye")) {
            int eye = t.number(0, 3);
            t.expect(t.look().equals("slip"));
            s.eyes[eye][0] = t.number(0, 10);
        } else {
            int[] p = s.players[t.number(0, 3)];
            String[] names = {"purse", "stake", "bears"};
            int[][] limits = {{0, 9999}, {1, 99}, {1, 9}};
            for (int what = 0; what < 3; what++) {
                if (t.look().equals(names[what])) {
                    t.at++;
                    p[what] = t.number(limits[what][0], limits[what][1]);
                }
            }
        }
    }

    int text() {
        State before = s.twin();
        try {
            Tokens t = new Tokens();
            int items = 0;
            do {
                if (items > 0) {
                    t.expect(t.look().equals(";"));
                }
                item(t);
                items++;
            } while (!t.look().isEmpty());
            return items;
        } catch (Finding fault) {
            s = before;
            return fault.number;
        } finally {
            tape = "";
        }
    }

    int hold(int spot, int pass) {
        range(spot, 0, 9);
        range(pass, -1, s.passes.size() - 1);
        s.spots[spot] = pass;
        return 1;
    }

    int as(int spot, int kind) {
        range(spot, 0, 9);
        range(kind, 0, 6);
        int held = s.spots[spot];
        need(held >= 0 && held < s.passes.size(), Check.MISSING);
        need(KINDS[kind].getClass().isInstance(KINDS[s.passes.get(held)[0]]), Check.KIND);
        return held;
    }

    private void knownSheet(int t) {
        range(t, 0, 3);
    }

    int sheet(int t, int b, int n) {
        knownSheet(t);
        need(Arrays.asList(0, 8, 16, 32).contains(b), Check.BEYOND);
        need(n >= 0, Check.SIZE);
        range(n, 0, 40);
        bits[t] = b;
        sheets[t] = b == 0 ? null : new int[n];
        return b == 0 ? 0 : n;
    }

    int write(int t, int i, int v) {
        knownSheet(t);
        need(sheets[t] != null, Check.MISSING);
        range(i, 0, sheets[t].length - 1);
        sheets[t][i] = v << 32 - bits[t] >> 32 - bits[t];
        return 1;
    }

    int copy(int t, int from, int u, int to, int n) {
        knownSheet(t);
        knownSheet(u);
        need(sheets[t] != null && sheets[u] != null, Check.MISSING);
        need(bits[t] == bits[u], Check.KIND);
        need(from >= 0 && to >= 0 && n >= 0, Check.BEYOND);
        need((long) from + n <= sheets[t].length && (long) to + n <= sheets[u].length, Check.BEYOND);
        int[] were = sheets[t].clone();
        for (int i = 0; i < n; i++) {
            sheets[u][to + i] = were[from + i];
        }
        return n;
    }

    int load(int t) {
        knownSheet(t);
        need(sheets[t] != null, Check.MISSING);
        int came = 0;
        for (int v : sheets[t]) {
            if (v < 0 || v > 6 || came == s.passes.size()) {
                break;
            }
            s.passes.get(came++)[0] = v;
        }
        return came;
    }

    int judge(int t) {
        knownSheet(t);
        need(sheets[t] != null, Check.MISSING);
        for (int k = 0; k <= s.passes.size() && k < sheets[t].length; k++) {
            if (sheets[t][k] != where(k)) {
                return k + 1;
            }
        }
        return 0;
    }

    int image() {
        kept = s.twin();
        return 1;
    }

    int undo() {
        need(kept != null, Check.NONE);
        s = kept.twin();
        return s.passes.size();
    }

    int tear() {
        int was = kept == null ? 0 : 1;
        kept = null;
        return was;
    }

    int count(int what) {
        range(what, 0, 7);
        int[] sums = new int[3];
        for (int i = 0; i < 4; i++) {
            sums[0] += s.players[i][0];
            sums[1] += s.players[i][1];
            sums[2] += s.eyes[i][0];
        }
        int held = 0;
        for (int spot : s.spots) {
            held += spot >= 0 ? 1 : 0;
        }
        return new int[] {s.passes.size(), s.cups, sums[0], sums[1], sums[2], tape.length(), s.z, held}[what];
    }

    int status(int which) {
        range(which, -1, 6);
        return which < 0 ? Arrays.stream(findings).sum() : findings[which];
    }
}

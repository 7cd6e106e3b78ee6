/**
 * Three cups and a pea. The document (../shared/DOC.md) says what each call answers; words in capitals are its terms.
 *
 * <p>All rows are made with the object and used again: no call makes an object, because all calls of a run share one
 * small room. For the same reason an image is a second {@link Table} that is there from the start.
 */
public final class CupsAndPea {

    private static final int BEYOND = -1000001;
    private static final int FULL = -1000002;
    private static final int OTHER_KIND = -1000003;
    private static final int NONE = -1000004;
    private static final int STATE = -1000005;
    private static final int MISSING = -1000006;
    private static final int SIZE = -1000007;
    private static final int FINDINGS = 7;

    private static final int LEAST_CUPS = 3;
    private static final int MOST_CUPS = 6;
    private static final int MOST_PASSES = 14;
    private static final int HAND = -1;
    private static final int NOTHING = -1;
    private static final int NOBODY = -1;

    private static final int PASS = 0;
    private static final int FEINT = 1;
    private static final int LIFT = 2;
    private static final int DROP = 3;
    private static final int WHIRL = 4;
    private static final int SLOW = 5;
    private static final int QUICK = 6;
    private static final int KINDS = 7;
    /** The kind above each kind, by its number; nothing is above PASS. */
    private static final int[] ABOVE = {-1, 0, 0, 2, 1, 0, 5};

    private static final int EYES = 4;
    private static final int TENTHS = 10;

    private static final int PLAYERS = 4;
    private static final int MOST_ROUNDS = 10;
    private static final int PURSE = 0;
    private static final int STAKE = 1;
    private static final int BEARS = 2;
    private static final int MOST_STAKE = 99;
    /** What PURSE, STAKE and BEARS may be told to be. */
    private static final int[] PLAYER_LEAST = {0, 1, 1};
    private static final int[] PLAYER_MOST = {9999, 99, 9};

    private static final int MOST_MORE = 4;
    /** More than any WEIGHT: these are 10 to the power 14 in all. */
    private static final long ABOVE_WEIGHTS = 1000000000000000L;
    private static final int MOST_SHARED = 9;
    private static final int MOST_FEINTED = 10;
    private static final int MOST_ORDERED = 7;
    private static final int MOST_SHUFFLED = 12;
    private static final int RING_BASE = 15;

    private static final int MOST_BYTES = 120;
    private static final int MOST_NUMBER = 9999;
    private static final int SPOTS = 10;
    private static final int SHEETS = 4;
    private static final int MOST_NUMBERS = 40;

    private final Table table = new Table();
    private final Table kept = new Table();
    /** Where a text is tried, so that one with a FAULT changes nothing. */
    private final Table draft = new Table();
    private boolean isKept = false;
    private final Sight sight = new Sight();
    private final Sight otherSight = new Sight();
    private final Search search = new Search();
    private final Orders orderings = new Orders();
    private final Tape tape = new Tape();
    private final Sheet[] sheets = new Sheet[SHEETS];
    private final int[] findings = new int[FINDINGS];

    public CupsAndPea() {
        for (int s = 0; s < SHEETS; s++) {
            sheets[s] = new Sheet();
        }
    }

    // ---- cups, passes

    public int cups(int n) {
        if (!within(n, LEAST_CUPS, MOST_CUPS)) {
            return tell(BEYOND);
        }
        if (table.size > 0) {
            return tell(STATE);
        }
        int was = table.cups;
        table.setCups(n);
        return was;
    }

    public int pea(int place) {
        if (!isPlaceOrHand(place)) {
            return tell(BEYOND);
        }
        int was = table.begin;
        table.begin = place;
        return was;
    }

    public int pass(int kind, int a, int b) {
        if (!isKind(kind) || !isPlace(a) || !isPlace(b) || a == b) {
            return tell(BEYOND);
        }
        if (table.size >= MOST_PASSES) {
            return tell(FULL);
        }
        table.add(kind, a, b);
        return table.size - 1;
    }

    public int of(int pass, int what) {
        if (!isPass(pass) || !within(what, 0, 3)) {
            return tell(BEYOND);
        }
        Pass p = table.passes[pass];
        switch (what) {
            case 0:
                return p.kind;
            case 1:
                return p.a;
            case 2:
                return p.b;
            default:
                return p.looksTo();
        }
    }

    public int change(int pass, int v) {
        if (!isPass(pass) || !isKind(v)) {
            return tell(BEYOND);
        }
        int was = table.passes[pass].kind;
        table.passes[pass].kind = v;
        return was;
    }

    public int back() {
        if (table.size <= 0) {
            return tell(NONE);
        }
        table.size--;
        return table.size;
    }

    public int where(int k) {
        if (!isBehind(k)) {
            return tell(BEYOND);
        }
        return table.peaBehind(k);
    }

    public int goes(int place, int k) {
        if (!isPlace(place) || !isBehind(k)) {
            return tell(BEYOND);
        }
        int at = place;
        for (int i = 0; i < k; i++) {
            at = table.passes[i].thingBehind(at);
        }
        return at;
    }

    public int moves() {
        int set = 0;
        int at = table.begin;
        for (int i = 0; i < table.size; i++) {
            int then = table.passes[i].peaBehind(at);
            if (then != at) {
                set |= 1 << i;
            }
            at = then;
        }
        return set;
    }

    // ---- eyes

    public int eye(int eye, int what, int v) {
        if (!isEye(eye) || !within(what, 0, 1)) {
            return tell(BEYOND);
        }
        Eye e = table.eyes[eye];
        if (what == 0) {
            if (!within(v, 0, TENTHS)) {
                return tell(BEYOND);
            }
            int was = e.slip;
            e.slip = v;
            return was;
        }
        if (!isPlace(v)) {
            return tell(BEYOND);
        }
        int was = e.begin;
        e.begin = v;
        return was;
    }

    public long weight(int eye, int k, int place) {
        if (!isEye(eye) || !isBehind(k) || !isPlace(place)) {
            return tell(BEYOND);
        }
        sight.follow(table, eye, NOTHING);
        return sight.at(k, place);
    }

    public int guess(int eye) {
        if (!isEye(eye)) {
            return tell(BEYOND);
        }
        return likeliest(eye);
    }

    public long right(int eye) {
        if (!isEye(eye)) {
            return tell(BEYOND);
        }
        return rightOf(eye, NOTHING);
    }

    public int lost(int eye) {
        if (!isEye(eye)) {
            return tell(BEYOND);
        }
        sight.follow(table, eye, NOTHING);
        for (int k = 0; k <= table.size; k++) {
            if (sight.likeliest(k) != table.peaBehind(k)) {
                return k;
            }
        }
        return tell(NONE);
    }

    public int both(int one, int other) {
        if (!isEye(one) || !isEye(other) || one == other) {
            return tell(BEYOND);
        }
        if (table.size > MOST_SHARED) {
            return tell(SIZE);
        }
        sight.follow(table, one, NOTHING);
        otherSight.follow(table, other, NOTHING);
        int place = sight.likeliestWith(otherSight, table.size);
        return place < 0 ? tell(NONE) : place;
    }

    public int may(int eye) {
        if (!isEye(eye)) {
            return tell(BEYOND);
        }
        sight.follow(table, eye, NOTHING);
        int set = 0;
        for (int place = 0; place < table.cups; place++) {
            if (sight.at(table.size, place) > 0) {
                set |= 1 << place;
            }
        }
        return set;
    }

    // ---- what misleads

    public int watch(int eye) {
        if (!isEye(eye)) {
            return tell(BEYOND);
        }
        if (table.size <= 0) {
            return tell(NONE);
        }
        int watched = 0;
        long most = -1;
        for (int i = 0; i < table.size; i++) {
            long right = rightOf(eye, i);
            if (right > most) {
                most = right;
                watched = i;
            }
        }
        return watched;
    }

    public int feint(int eye) {
        if (!isEye(eye)) {
            return tell(BEYOND);
        }
        if (table.size <= 0) {
            return tell(NONE);
        }
        int feinted = 0;
        long least = ABOVE_WEIGHTS;
        for (int i = 0; i < table.size; i++) {
            long right = rightIf(eye, i, FEINT);
            if (right < least) {
                least = right;
                feinted = i;
            }
        }
        return feinted;
    }

    public int kindFor(int eye, int pass) {
        if (!isEye(eye) || !isPass(pass)) {
            return tell(BEYOND);
        }
        int chosen = 0;
        long least = ABOVE_WEIGHTS;
        for (int kind = 0; kind < KINDS; kind++) {
            long right = rightIf(eye, pass, kind);
            if (right < least) {
                least = right;
                chosen = kind;
            }
        }
        return chosen;
    }

    public long misled(int eye, int n, int k) {
        if (!isEye(eye) || !within(n, 1, MOST_MORE) || !isKind(k)) {
            return tell(BEYOND);
        }
        if (table.size + n > MOST_PASSES) {
            return tell(FULL);
        }
        search.start(table, sight, eye, n, k);
        return search.least;
    }

    public int row(int eye, int n, int k, int i) {
        if (!isEye(eye) || !within(n, 1, MOST_MORE) || !isKind(k) || !within(i, 0, n - 1)) {
            return tell(BEYOND);
        }
        if (table.size + n > MOST_PASSES) {
            return tell(FULL);
        }
        search.start(table, sight, eye, n, k);
        return search.first[i];
    }

    // ---- what was seen

    public int feints(int place) {
        if (!isPlaceOrHand(place)) {
            return tell(BEYOND);
        }
        int found = 0;
        int sets = table.feintSets();
        for (int set = 0; set < sets; set++) {
            if (table.peaWithFeints(set) == place) {
                found++;
            }
        }
        return found;
    }

    public int surely(int place, int what) {
        if (!isPlaceOrHand(place) || !within(what, 0, 2)) {
            return tell(BEYOND);
        }
        int least = NOTHING;
        int inAll = 0;
        int inAny = 0;
        int sets = table.feintSets();
        for (int set = 0; set < sets; set++) {
            if (table.peaWithFeints(set) == place) {
                if (least == NOTHING) {
                    least = set;
                    inAll = set;
                }
                inAll &= set;
                inAny |= set;
            }
        }
        if (least == NOTHING) {
            return tell(NONE);
        }
        return what == 0 ? least : what == 1 ? inAll : inAny;
    }

    public int rings() {
        int sum = 0;
        for (int i = 0; i < table.size; i++) {
            Pass p = table.passes[i];
            sum += ringAt(p.a) + ringAt(p.looksTo());
        }
        return sum;
    }

    public int orders(int place) {
        if (!isPlaceOrHand(place)) {
            return tell(BEYOND);
        }
        if (table.size > MOST_ORDERED) {
            return tell(SIZE);
        }
        return orderings.thatEnd(table, place);
    }

    // ---- players

    public int player(int player, int what, int v) {
        if (!isPlayer(player) || !within(what, PURSE, BEARS) || !within(v, PLAYER_LEAST[what], PLAYER_MOST[what])) {
            return tell(BEYOND);
        }
        Player p = table.players[player];
        int was = p.tells(what);
        p.become(what, v);
        return was;
    }

    public int told(int player, int what) {
        if (!isPlayer(player) || !within(what, 0, 4)) {
            return tell(BEYOND);
        }
        return table.players[player].tells(what);
    }

    public int round(int player, int win) {
        if (!isPlayer(player) || !within(win, 0, 1)) {
            return tell(BEYOND);
        }
        if (table.players[player].hasLeft()) {
            return tell(STATE);
        }
        return table.playRound(player, win == 1);
    }

    public int play(int player, int eye) {
        if (!isPlayer(player) || !isEye(eye)) {
            return tell(BEYOND);
        }
        if (table.players[player].hasLeft()) {
            return tell(STATE);
        }
        boolean wins = likeliest(eye) == table.peaBehind(table.size);
        table.playRound(player, wins);
        return wins ? 1 : 0;
    }

    public int best(int player, int n) {
        if (!isPlayer(player) || !isRounds(n)) {
            return tell(BEYOND);
        }
        return table.players[player].brings(n);
    }

    public int should(int player, int n) {
        if (!isPlayer(player) || !isRounds(n)) {
            return tell(BEYOND);
        }
        Player p = table.players[player];
        if (p.brings(n) == 0) {
            return -1;
        }
        int winning = Player.winningFirst(p.purse, p.stake, p.bears, n);
        int losing = Player.losingFirst(p.purse, p.stake, p.lost, p.bears, n);
        return winning > losing ? 1 : 0;
    }

    public int richest(int n) {
        if (!isRounds(n)) {
            return tell(BEYOND);
        }
        int richest = 0;
        int most = -1;
        for (int i = 0; i < PLAYERS; i++) {
            int brings = table.players[i].brings(n);
            if (brings > most) {
                most = brings;
                richest = i;
            }
        }
        return richest;
    }

    public int now(int what) {
        switch (what) {
            case 0:
                return table.taken;
            case 1:
                return table.cups;
            case 2:
                return table.size;
            case 3:
                return table.begin;
            case 4:
                return table.whoLeft();
            default:
                return tell(BEYOND);
        }
    }

    // ---- draws

    public int shuffle(int n) {
        if (!within(n, 1, MOST_SHUFFLED)) {
            return tell(BEYOND);
        }
        if (table.size + n > MOST_PASSES) {
            return tell(FULL);
        }
        for (int i = 0; i < n; i++) {
            int kind = table.draw(KINDS);
            int a = table.draw(table.cups);
            int step = table.draw(table.cups - 1) + 1;
            int b = a + step < table.cups ? a + step : a + step - table.cups;
            table.add(kind, a, b);
        }
        return table.peaBehind(table.size);
    }

    public int seed(int v) {
        int was = table.z;
        table.z = v;
        return was;
    }

    // ---- texts

    public int feed(int bytes, int n) {
        if (!within(n, 1, 4)) {
            return tell(BEYOND);
        }
        if (tape.size + n > MOST_BYTES) {
            return tell(FULL);
        }
        for (int i = n - 1; i >= 0; i--) {
            tape.put(bytes >>> (8 * i));
        }
        return tape.size;
    }

    public int wipe() {
        int had = tape.size;
        tape.size = 0;
        return had;
    }

    public int text() {
        draft.become(table);
        int answer = tape.readOnto(draft);
        tape.size = 0;
        if (answer >= 0) {
            table.become(draft);
        }
        return answer;
    }

    // ---- spots, sheets

    public int hold(int spot, int pass) {
        if (!within(spot, 0, SPOTS - 1) || (pass != NOTHING && !isPass(pass))) {
            return tell(BEYOND);
        }
        table.spots[spot] = pass;
        return 1;
    }

    public int as(int spot, int kind) {
        if (!within(spot, 0, SPOTS - 1) || !isKind(kind)) {
            return tell(BEYOND);
        }
        int held = table.spots[spot];
        if (!isPass(held)) {
            return tell(MISSING);
        }
        return isUnder(table.passes[held].kind, kind) ? held : tell(OTHER_KIND);
    }

    public int sheet(int s, int bits, int n) {
        if (!isSheet(s) || !isBits(bits)) {
            return tell(BEYOND);
        }
        if (n < 0) {
            return tell(SIZE);
        }
        if (n > MOST_NUMBERS) {
            return tell(BEYOND);
        }
        sheets[s].lay(bits, bits == 0 ? 0 : n);
        return sheets[s].size;
    }

    public int write(int s, int i, int v) {
        if (!isSheet(s)) {
            return tell(BEYOND);
        }
        if (sheets[s].bits == 0) {
            return tell(MISSING);
        }
        if (!within(i, 0, sheets[s].size - 1)) {
            return tell(BEYOND);
        }
        sheets[s].put(i, v);
        return 1;
    }

    public int copy(int s, int from, int t, int to, int n) {
        if (!isSheet(s) || !isSheet(t)) {
            return tell(BEYOND);
        }
        Sheet source = sheets[s];
        Sheet target = sheets[t];
        if (source.bits == 0 || target.bits == 0) {
            return tell(MISSING);
        }
        if (source.bits != target.bits) {
            return tell(OTHER_KIND);
        }
        if (!source.has(from, n) || !target.has(to, n)) {
            return tell(BEYOND);
        }
        System.arraycopy(source.numbers, from, target.numbers, to, n);
        return n;
    }

    public int load(int s) {
        if (!isSheet(s)) {
            return tell(BEYOND);
        }
        Sheet sheet = sheets[s];
        if (sheet.bits == 0) {
            return tell(MISSING);
        }
        int came = 0;
        while (came < sheet.size && came < table.size && isKind(sheet.numbers[came])) {
            table.passes[came].kind = sheet.numbers[came];
            came++;
        }
        return came;
    }

    public int judge(int s) {
        if (!isSheet(s)) {
            return tell(BEYOND);
        }
        Sheet sheet = sheets[s];
        if (sheet.bits == 0) {
            return tell(MISSING);
        }
        for (int k = 0; k < sheet.size && k <= table.size; k++) {
            if (sheet.numbers[k] != table.peaBehind(k)) {
                return 1 + k;
            }
        }
        return 0;
    }

    // ---- images

    public int image() {
        kept.become(table);
        isKept = true;
        return 1;
    }

    public int undo() {
        if (!isKept) {
            return tell(NONE);
        }
        table.become(kept);
        return table.size;
    }

    public int tear() {
        int was = isKept ? 1 : 0;
        isKept = false;
        return was;
    }

    public int count(int what) {
        switch (what) {
            case 0:
                return table.size;
            case 1:
                return table.cups;
            case 2:
                return table.sumOfPlayers(PURSE);
            case 3:
                return table.sumOfPlayers(STAKE);
            case 4:
                return table.sumOfSlips();
            case 5:
                return tape.size;
            case 6:
                return table.z;
            case 7:
                return table.fullSpots();
            default:
                return tell(BEYOND);
        }
    }

    public int status(int which) {
        if (!within(which, -1, FINDINGS - 1)) {
            return tell(BEYOND);
        }
        if (which >= 0) {
            return findings[which];
        }
        int sum = 0;
        for (int i = 0; i < FINDINGS; i++) {
            sum += findings[i];
        }
        return sum;
    }

    // ---- what the calls share

    /** Counts a finding and answers it. */
    private int tell(int finding) {
        findings[BEYOND - finding]++;
        return finding;
    }

    private int likeliest(int eye) {
        sight.follow(table, eye, NOTHING);
        return sight.likeliest(table.size);
    }

    /** What right() is, or would be if the eye did not slip at one pass. */
    private long rightOf(int eye, int watched) {
        sight.follow(table, eye, watched);
        return sight.at(table.size, table.peaBehind(table.size));
    }

    /** What right() would be if a pass were of another kind. */
    private long rightIf(int eye, int pass, int kind) {
        int was = table.passes[pass].kind;
        table.passes[pass].kind = kind;
        long right = rightOf(eye, NOTHING);
        table.passes[pass].kind = was;
        return right;
    }

    private boolean isPlace(int place) {
        return within(place, 0, table.cups - 1);
    }

    private boolean isPlaceOrHand(int place) {
        return place == HAND || isPlace(place);
    }

    private boolean isPass(int pass) {
        return within(pass, 0, table.size - 1);
    }

    /** Whether there are so many passes that one can be behind k of them. */
    private boolean isBehind(int k) {
        return within(k, 0, table.size);
    }

    private static boolean isKind(int kind) {
        return within(kind, 0, KINDS - 1);
    }

    private static boolean isEye(int eye) {
        return within(eye, 0, EYES - 1);
    }

    private static boolean isPlayer(int player) {
        return within(player, 0, PLAYERS - 1);
    }

    private static boolean isRounds(int n) {
        return within(n, 1, MOST_ROUNDS);
    }

    private static boolean isSheet(int s) {
        return within(s, 0, SHEETS - 1);
    }

    /** Of 0 bits is a sheet that is missing. */
    private static boolean isBits(int bits) {
        return bits == 0 || bits == 8 || bits == 16 || bits == 32;
    }

    private static boolean within(int v, int least, int most) {
        return v >= least && v <= most;
    }

    /** Whether a kind is another one or under it. */
    private static boolean isUnder(int kind, int other) {
        int at = kind;
        for (int i = 0; i < KINDS && isKind(at); i++) {
            if (at == other) {
                return true;
            }
            at = ABOVE[at];
        }
        return false;
    }

    private static int ringAt(int place) {
        int ring = 1;
        for (int i = 0; i < place; i++) {
            ring *= RING_BASE;
        }
        return ring;
    }

    /** Where what is at a place comes to when x and y change places. */
    private static int swapped(int x, int y, int place) {
        return place == x ? y : place == y ? x : place;
    }

    private static int next(int place, int cups) {
        return place + 1 < cups ? place + 1 : 0;
    }

    /** One pass; its two places are unlike. */
    private static final class Pass {
        int kind = PASS;
        int a = 0;
        int b = 1;

        void set(int newKind, int newA, int newB) {
            kind = newKind;
            a = newA;
            b = newB;
        }

        /** The third place of a whirl; there are three cups at least, so one of the first three is free. */
        int third() {
            for (int c = 0; c < LEAST_CUPS; c++) {
                if (c != a && c != b) {
                    return c;
                }
            }
            return 0;
        }

        int looksTo() {
            return kind == WHIRL ? third() : b;
        }

        /** Where what is at a place comes to; what is in the hand stays there, as that is none of the places. */
        int thingBehind(int place) {
            switch (kind) {
                case FEINT:
                    return place;
                case WHIRL:
                    return whirled(place);
                default:
                    return swapped(a, b, place);
            }
        }

        private int whirled(int place) {
            int c = third();
            return place == a ? b : place == b ? c : place == c ? a : place;
        }

        int peaBehind(int place) {
            if (kind == LIFT && place == a) {
                return HAND;
            }
            if (kind == DROP && place == HAND) {
                return b;
            }
            return thingBehind(place);
        }

        int slipOf(int slip) {
            switch (kind) {
                case SLOW:
                    return 0;
                case QUICK:
                    return Math.min(2 * slip, TENTHS);
                default:
                    return slip;
            }
        }
    }

    private static final class Eye {
        int slip = 2;
        int begin = 0;
    }

    private static final class Player {
        int purse = 50;
        int stake = 4;
        int bears = 2;
        int lost = 0;

        int tells(int what) {
            switch (what) {
                case PURSE:
                    return purse;
                case STAKE:
                    return stake;
                case BEARS:
                    return bears;
                case 3:
                    return lost;
                default:
                    return hasLeft() ? 1 : 0;
            }
        }

        void become(int what, int v) {
            switch (what) {
                case PURSE:
                    purse = v;
                    break;
                case STAKE:
                    stake = v;
                    break;
                default:
                    bears = v;
                    break;
            }
        }

        void become(Player other) {
            purse = other.purse;
            stake = other.stake;
            bears = other.bears;
            lost = other.lost;
        }

        boolean hasLeft() {
            return isGone(purse, lost, bears);
        }

        /** One round: what was staked. */
        int stakes(boolean wins) {
            int staked = Math.min(stake, purse);
            purse = wins ? purse + staked : purse - staked;
            stake = wins ? raised(stake) : lowered(stake);
            lost = wins ? 0 : lost + 1;
            return staked;
        }

        int brings(int n) {
            return mostOf(purse, stake, lost, bears, n);
        }

        private static boolean isGone(int purse, int lost, int bears) {
            return lost >= bears || purse <= 0;
        }

        private static int raised(int stake) {
            return Math.min(2 * stake, MOST_STAKE);
        }

        private static int lowered(int stake) {
            return Math.max(stake / 2, 1);
        }

        /** The most that such a player brings in n rounds or fewer; n is 10 at most, and so is the depth. */
        private static int mostOf(int purse, int stake, int lost, int bears, int n) {
            if (n <= 0 || isGone(purse, lost, bears)) {
                return 0;
            }
            int winning = winningFirst(purse, stake, bears, n);
            int losing = losingFirst(purse, stake, lost, bears, n);
            return Math.max(0, Math.max(winning, losing));
        }

        /** A player who wins has lost nothing in a row then. */
        private static int winningFirst(int purse, int stake, int bears, int n) {
            int staked = Math.min(stake, purse);
            return mostOf(purse + staked, raised(stake), 0, bears, n - 1) - staked;
        }

        private static int losingFirst(int purse, int stake, int lost, int bears, int n) {
            int staked = Math.min(stake, purse);
            return mostOf(purse - staked, lowered(stake), lost + 1, bears, n - 1) + staked;
        }
    }

    /** All that an image keeps. */
    private static final class Table {
        int cups = LEAST_CUPS;
        int begin = 0;
        int size = 0;
        int taken = 0;
        int z = 1;
        final Pass[] passes = new Pass[MOST_PASSES];
        final Eye[] eyes = new Eye[EYES];
        final Player[] players = new Player[PLAYERS];
        final int[] spots = new int[SPOTS];

        Table() {
            for (int i = 0; i < MOST_PASSES; i++) {
                passes[i] = new Pass();
            }
            for (int i = 0; i < EYES; i++) {
                eyes[i] = new Eye();
            }
            for (int i = 0; i < PLAYERS; i++) {
                players[i] = new Player();
            }
            for (int i = 0; i < SPOTS; i++) {
                spots[i] = NOTHING;
            }
        }

        void become(Table other) {
            cups = other.cups;
            begin = other.begin;
            size = other.size;
            taken = other.taken;
            z = other.z;
            for (int i = 0; i < other.size; i++) {
                Pass p = other.passes[i];
                passes[i].set(p.kind, p.a, p.b);
            }
            for (int i = 0; i < EYES; i++) {
                eyes[i].slip = other.eyes[i].slip;
                eyes[i].begin = other.eyes[i].begin;
            }
            for (int i = 0; i < PLAYERS; i++) {
                players[i].become(other.players[i]);
            }
            System.arraycopy(other.spots, 0, spots, 0, SPOTS);
        }

        void setCups(int n) {
            cups = n;
            if (begin >= n) {
                begin = 0;
            }
            for (int i = 0; i < EYES; i++) {
                if (eyes[i].begin >= n) {
                    eyes[i].begin = 0;
                }
            }
        }

        void add(int kind, int a, int b) {
            if (size < MOST_PASSES) {
                passes[size].set(kind, a, b);
                size++;
            }
        }

        int peaBehind(int k) {
            int at = begin;
            for (int i = 0; i < k; i++) {
                at = passes[i].peaBehind(at);
            }
            return at;
        }

        /** How many sets there are of the passes that may be feints. */
        int feintSets() {
            return 1 << Math.min(size, MOST_FEINTED);
        }

        /** Where the pea is in the end if the passes of a set do nothing. */
        int peaWithFeints(int set) {
            int at = begin;
            for (int i = 0; i < size; i++) {
                if ((set & 1 << i) == 0) {
                    at = passes[i].peaBehind(at);
                }
            }
            return at;
        }

        int playRound(int player, boolean wins) {
            int staked = players[player].stakes(wins);
            taken = wins ? taken - staked : taken + staked;
            return staked;
        }

        int whoLeft() {
            int set = 0;
            for (int i = 0; i < PLAYERS; i++) {
                if (players[i].hasLeft()) {
                    set |= 1 << i;
                }
            }
            return set;
        }

        /** The rest of the next draw by a number. */
        int draw(int by) {
            z = z * 1103515245 + 12345;
            return by > 0 ? (z >>> 8) % by : 0;
        }

        int sumOfPlayers(int what) {
            int sum = 0;
            for (int i = 0; i < PLAYERS; i++) {
                sum += players[i].tells(what);
            }
            return sum;
        }

        int sumOfSlips() {
            int sum = 0;
            for (int i = 0; i < EYES; i++) {
                sum += eyes[i].slip;
            }
            return sum;
        }

        int fullSpots() {
            int full = 0;
            for (int i = 0; i < SPOTS; i++) {
                if (spots[i] != NOTHING) {
                    full++;
                }
            }
            return full;
        }
    }

    /** The weights of an eye at each place, a row for behind each pass; every question fills them anew. */
    private static final class Sight {
        final long[][] weights = new long[MOST_PASSES + 1][MOST_CUPS];

        /** Fills the rows behind all passes; the eye does not slip at the watched one. */
        void follow(Table t, int eye, int watched) {
            Eye e = t.eyes[eye];
            for (int place = 0; place < MOST_CUPS; place++) {
                weights[0][place] = place == e.begin ? 1L : 0L;
            }
            for (int i = 0; i < t.size; i++) {
                Pass p = t.passes[i];
                see(i, p, i == watched ? 0 : p.slipOf(e.slip), t.cups);
            }
        }

        /** Fills the row behind one pass more than k. */
        void see(int k, Pass p, int slip, int cups) {
            for (int place = 0; place < cups; place++) {
                weights[k + 1][place] = seenAt(k, p, slip, cups, place);
            }
            for (int place = cups; place < MOST_CUPS; place++) {
                weights[k + 1][place] = 0L;
            }
        }

        /** The weight at a place behind one pass more than k: what has changed places has come from the other one. */
        long seenAt(int k, Pass p, int slip, int cups, int place) {
            int x = p.a;
            int y = p.looksTo();
            int missed = next(y, cups);
            if (missed == x) {
                missed = next(missed, cups);
            }
            long seen = weights[k][swapped(x, y, place)];
            long slipped = weights[k][swapped(x, missed, place)];
            return (TENTHS - slip) * seen + slip * slipped;
        }

        /** There is no weight on the hand. */
        long at(int k, int place) {
            return place < 0 ? 0L : weights[k][place];
        }

        int likeliest(int k) {
            int likeliest = 0;
            for (int place = 1; place < MOST_CUPS; place++) {
                if (weights[k][place] > weights[k][likeliest]) {
                    likeliest = place;
                }
            }
            return likeliest;
        }

        /** The likeliest place of two eyes together behind k passes, or nobody's. */
        int likeliestWith(Sight other, int k) {
            int likeliest = NOBODY;
            long most = 0L;
            for (int place = 0; place < MOST_CUPS; place++) {
                long product = weights[k][place] * other.weights[k][place];
                if (product > most) {
                    most = product;
                    likeliest = place;
                }
            }
            return likeliest;
        }
    }

    /** The search for the row of more passes that misleads an eye most. */
    private static final class Search {
        int kind = PASS;
        int slip = 0;
        int length = 0;
        long least = 0L;
        final int[] chosen = new int[MOST_MORE];
        final int[] first = new int[MOST_MORE];
        final Pass more = new Pass();

        /** Looks for the first row of n passes of a kind that leaves the least weight where the pea is. */
        void start(Table t, Sight sight, int eye, int n, int k) {
            kind = k;
            length = n;
            least = ABOVE_WEIGHTS;
            more.set(k, 0, 1);
            slip = more.slipOf(t.eyes[eye].slip);
            sight.follow(t, eye, NOTHING);
            seek(this, t, sight, 0, t.peaBehind(t.size));
        }

        /** Goes on with each pass behind those chosen, in their order; there are 4 at most, and so is the depth. */
        private static void seek(Search s, Table t, Sight sight, int depth, int pea) {
            if (depth >= s.length) {
                return;
            }
            // No weight is below 0, so nothing misleads more than a row that leaves none.
            for (int a = 0; a < t.cups && s.least > 0; a++) {
                for (int b = a + 1; b < t.cups && s.least > 0; b++) {
                    s.chosen[depth] = 10 * a + b;
                    s.more.set(s.kind, a, b);
                    choose(s, t, sight, depth, s.more.peaBehind(pea));
                }
            }
        }

        /** Behind the last pass of a row only the one weight is looked at that is asked for. */
        private static void choose(Search s, Table t, Sight sight, int depth, int pea) {
            int k = t.size + depth;
            if (depth + 1 < s.length) {
                sight.see(k, s.more, s.slip, t.cups);
                seek(s, t, sight, depth + 1, pea);
                return;
            }
            long right = pea < 0 ? 0L : sight.seenAt(k, s.more, s.slip, t.cups, pea);
            if (right < s.least) {
                s.least = right;
                System.arraycopy(s.chosen, 0, s.first, 0, s.length);
            }
        }
    }

    /** In how many orders of some passes the pea comes where, set of passes by set. */
    private static final class Orders {
        /** For each set the hand, then the places. */
        final int[] ways = new int[(1 << MOST_ORDERED) * (MOST_CUPS + 1)];

        int thatEnd(Table t, int place) {
            int sets = 1 << Math.min(t.size, MOST_ORDERED);
            for (int i = 0; i < sets * (MOST_CUPS + 1); i++) {
                ways[i] = 0;
            }
            ways[index(0, t.begin)] = 1;
            for (int set = 0; set < sets; set++) {
                for (int pea = HAND; pea < t.cups; pea++) {
                    goOn(t, set, pea);
                }
            }
            return ways[index(sets - 1, place)];
        }

        /** Each pass that is not in the set yet may be the next one. */
        private void goOn(Table t, int set, int pea) {
            int so = ways[index(set, pea)];
            if (so == 0) {
                return;
            }
            for (int i = 0; i < t.size; i++) {
                if ((set & 1 << i) == 0) {
                    ways[index(set | 1 << i, t.passes[i].peaBehind(pea))] += so;
                }
            }
        }

        private static int index(int set, int pea) {
            return set * (MOST_CUPS + 1) + pea + 1;
        }
    }

    /** The tape, and the reader of the text on it: always at one token, and at the faulty one where it ends. */
    private static final class Tape {
        private static final int END = 0;
        private static final int WORD = 1;
        private static final int NUMBER = 2;
        private static final int SIGN = 3;
        private static final int OTHER = 4;

        final byte[] bytes = new byte[MOST_BYTES];
        int size = 0;
        int sort = END;
        /** The first byte of the token, and the first one behind it. */
        int start = 0;
        int stop = 0;
        int number = 0;

        void put(int v) {
            if (size < MOST_BYTES) {
                bytes[size] = (byte) v;
                size++;
            }
        }

        /** How many items the text has, which are then so on the table; or -1 less the fault. */
        int readOnto(Table t) {
            stop = 0;
            step();
            for (int items = 1; items <= MOST_BYTES; items++) {
                if (!readItem(t)) {
                    break;
                }
                if (sort == END) {
                    return items;
                }
                if (sort != SIGN) {
                    break;
                }
                step();
            }
            return -1 - start;
        }

        private boolean readItem(Table t) {
            int kind = kindNamed();
            if (kind >= 0) {
                return readPass(t, kind);
            }
            if (isWord("pea")) {
                return readPea(t);
            }
            if (isWord("eye")) {
                return readEye(t);
            }
            return isWord("player") && readPlayer(t);
        }

        private int kindNamed() {
            for (int kind = 0; kind < KINDS; kind++) {
                if (isWord(nameOfKind(kind))) {
                    return kind;
                }
            }
            return NOTHING;
        }

        private static String nameOfKind(int kind) {
            switch (kind) {
                case PASS:
                    return "pass";
                case FEINT:
                    return "feint";
                case LIFT:
                    return "lift";
                case DROP:
                    return "drop";
                case WHIRL:
                    return "whirl";
                case SLOW:
                    return "slow";
                default:
                    return "quick";
            }
        }

        private boolean readPass(Table t, int kind) {
            if (t.size >= MOST_PASSES) {
                return false;
            }
            step();
            int a = takeNumber(0, t.cups - 1);
            if (a < 0 || (sort == NUMBER && number == a)) {
                return false;
            }
            int b = takeNumber(0, t.cups - 1);
            if (b < 0) {
                return false;
            }
            t.add(kind, a, b);
            return true;
        }

        private boolean readPea(Table t) {
            step();
            if (isWord("hand")) {
                step();
                t.begin = HAND;
                return true;
            }
            int place = takeNumber(0, t.cups - 1);
            if (place < 0) {
                return false;
            }
            t.begin = place;
            return true;
        }

        private boolean readEye(Table t) {
            step();
            int eye = takeNumber(0, EYES - 1);
            if (eye < 0 || !isWord("slip")) {
                return false;
            }
            step();
            int slip = takeNumber(0, TENTHS);
            if (slip < 0) {
                return false;
            }
            t.eyes[eye].slip = slip;
            return true;
        }

        /** What a player has may be told or not, but in this order. */
        private boolean readPlayer(Table t) {
            step();
            int player = takeNumber(0, PLAYERS - 1);
            if (player < 0) {
                return false;
            }
            for (int what = PURSE; what <= BEARS; what++) {
                if (isWord(nameOfOwn(what))) {
                    step();
                    int v = takeNumber(PLAYER_LEAST[what], PLAYER_MOST[what]);
                    if (v < 0) {
                        return false;
                    }
                    t.players[player].become(what, v);
                }
            }
            return true;
        }

        private static String nameOfOwn(int what) {
            return what == PURSE ? "purse" : what == STAKE ? "stake" : "bears";
        }

        /** The number that the token is, which is left behind then; -1 if it can't stand there. */
        private int takeNumber(int least, int most) {
            if (sort != NUMBER || !within(number, least, most)) {
                return -1;
            }
            int v = number;
            step();
            return v;
        }

        private boolean isWord(String name) {
            if (sort != WORD || stop - start != name.length()) {
                return false;
            }
            for (int i = 0; i < name.length(); i++) {
                if (bytes[start + i] != name.charAt(i)) {
                    return false;
                }
            }
            return true;
        }

        /** Goes on to the next token. */
        private void step() {
            start = stop;
            while (start < size && bytes[start] == ' ') {
                start++;
            }
            stop = start;
            sort = sortAt(start);
            number = 0;
            while (stop < size && sortAt(stop) == sort) {
                if (sort == NUMBER) {
                    // One that is too great stays just so: many digits would wrap around.
                    number = Math.min(number * 10 + bytes[stop] - '0', MOST_NUMBER + 1);
                }
                stop++;
                if (sort == SIGN) {
                    break;
                }
            }
        }

        /** The sort of the token that a byte begins. */
        private int sortAt(int i) {
            if (i < 0 || i >= size) {
                return END;
            }
            byte it = bytes[i];
            if (it >= 'a' && it <= 'z') {
                return WORD;
            }
            if (it >= '0' && it <= '9') {
                return NUMBER;
            }
            return it == ';' ? SIGN : OTHER;
        }
    }

    /** A row of numbers of 8, 16 or 32 bits; of 0 bits it is missing. */
    private static final class Sheet {
        int bits = 0;
        int size = 0;
        final int[] numbers = new int[MOST_NUMBERS];

        void lay(int newBits, int newSize) {
            bits = newBits;
            size = newSize;
            for (int i = 0; i < MOST_NUMBERS; i++) {
                numbers[i] = 0;
            }
        }

        void put(int i, int v) {
            numbers[i] = bits == 8 ? (byte) v : bits == 16 ? (short) v : v;
        }

        /** Whether there are n numbers from one on; the sum of the two might wrap around. */
        boolean has(int from, int n) {
            return from >= 0 && n >= 0 && n <= size && from <= size - n;
        }
    }
}

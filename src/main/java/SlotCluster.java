import java.util.NoSuchElementException;

/** A cluster of nodes that send by turns, each in its own slot of a round. */
public final class SlotCluster {
    public static final int NONE = -1;

    private static final int MOST_BYTES = 400;
    private static final int MOST_TEXTS = 12;
    private static final int MOST_NODES = 8;
    private static final int MOST_CLOCK = 999;
    private static final int MOST_WAIT = 99;
    private static final int MOST_RATE = 9;
    private static final int MOST_BY = 99;
    private static final int MOST_WIDTH = 999;
    private static final int MOST_ROUND = 9999;
    private static final int MOST_AHEAD = 60;
    private static final int MOST_ROWS = 60;
    private static final int MOST_ACTS = 12;
    private static final int MOST_LINES = 14;
    private static final int MOST_LAW_LINES = 12;
    private static final int MOST_DEPTH = 6;
    private static final int MOST_MID_BYTES = 20;
    private static final int MOST_READ_BYTES = 40;
    private static final int MOST_BLAME_BYTES = 60;
    private static final int LAST_TRIAL_SEED = 6;

    private static final int OFF = 0;
    private static final int LISTENING = 1;
    private static final int ACTIVE = 2;
    private static final int FROZEN = 3;

    private static final int SOUND = 0;
    private static final int LATE = 1;
    private static final int SILENT = 2;
    private static final int TORN = 3;

    private static final int CALLED = 0;
    private static final int COLLIDED = 1;
    private static final int JOINED = 2;
    private static final int UNACKNOWLEDGED = 3;
    private static final int OUTVOTED = 4;

    private static final int BLANK = 32;
    /** Each word ends with a blank; its place in this row, behind FIRST_WORD, is its code below. */
    private static final String WORDS =
        "node fast slow members good bad wait even alone flaky late omit hold if or and not ahead behind silent torn off active window precision round ";
    /** Codes below this one are the numbers themselves. */
    private static final int FIRST_WORD = 1000;
    private static final int W_NODE = 1000;
    private static final int W_FAST = 1001;
    private static final int W_SLOW = 1002;
    private static final int W_MEMBERS = 1003;
    private static final int W_GOOD = 1004;
    private static final int W_BAD = 1005;
    private static final int W_WAIT = 1006;
    private static final int W_EVEN = 1007;
    private static final int W_ALONE = 1008;
    private static final int W_FLAKY = 1009;
    private static final int W_LATE = 1010;
    private static final int W_OMIT = 1011;
    private static final int W_HOLD = 1012;
    private static final int W_IF = 1013;
    private static final int W_OR = 1014;
    private static final int W_AND = 1015;
    private static final int W_NOT = 1016;
    private static final int W_AHEAD = 1017;
    private static final int W_BEHIND = 1018;
    private static final int W_SILENT = 1019;
    private static final int W_TORN = 1020;
    private static final int W_OFF = 1021;
    private static final int W_ACTIVE = 1022;
    private static final int W_WINDOW = 1023;
    private static final int W_PRECISION = 1024;
    private static final int W_ROUND = 1025;
    /** A sign's code is its byte behind this one. */
    private static final int FIRST_SIGN = 2000;
    private static final int S_OPEN = FIRST_SIGN + '(';
    private static final int S_CLOSE = FIRST_SIGN + ')';
    private static final int S_PLUS = FIRST_SIGN + '+';
    private static final int S_SEMICOLON = FIRST_SIGN + ';';
    private static final int S_LESS = FIRST_SIGN + '<';
    private static final int S_MORE = FIRST_SIGN + '>';
    /** What can stand nowhere: a word that is none, a number of too many digits. */
    private static final int T_BAD = 3000;
    private static final int T_END = 3001;

    private final int[] tape = new int[MOST_BYTES];
    private int tapeLength;
    private int wrongByte = NONE;
    private final State now;
    private final State draft;
    private final State kept;
    private boolean isKept;
    private final Past past;
    private final Turn turn = new Turn();
    private final Groups groups = new Groups();
    private final Guess guess = new Guess();
    private final Text text = new Text();
    private final ClusterReader clusterReader = new ClusterReader(text);
    private final LawReader lawReader = new LawReader(text);
    private final int[] numbers = new int[MOST_MID_BYTES];
    private final int[] slots = new int[MOST_NODES];

    public SlotCluster() {
        Law noLaw = new Law(NONE, new int[0], new int[0], new int[1], new int[0]);
        now = new State(noLaw);
        draft = new State(noLaw);
        kept = new State(noLaw);
        past = new Past(noLaw);
    }

    // ---- the tape and the texts ----

    public int feed(int a, int b, int c, int d, int e) {
        if (tapeLength + 20 > MOST_BYTES) {
            return NONE;
        }
        putBytes(a);
        putBytes(b);
        putBytes(c);
        putBytes(d);
        putBytes(e);
        return tapeLength;
    }

    private void putBytes(int number) {
        for (int bits = 24; bits >= 0; bits -= 8) {
            if (tapeLength < tape.length) {
                tape[tapeLength] = (number >>> bits) & 255;
                tapeLength++;
            }
        }
    }

    public boolean end(int n) {
        if (n < 0 || n > tapeLength) {
            return false;
        }
        tapeLength = n;
        return true;
    }

    /** The bytes stay where they are till the next feed: a call may still read them. */
    private int useTape() {
        int length = tapeLength;
        tapeLength = 0;
        return length;
    }

    public int cluster() throws IllegalArgumentException, UnsupportedOperationException {
        text.load(tape, useTape());
        draft.copyFrom(now);
        clusterReader.readInto(draft);
        wrongByte = text.wrong;
        if (wrongByte != NONE) {
            throw new IllegalArgumentException();
        }
        if (now.texts >= MOST_TEXTS) {
            throw new UnsupportedOperationException();
        }
        now.copyFrom(draft);
        now.texts++;
        past.forget();
        return now.texts;
    }

    public int law() throws IllegalArgumentException {
        text.load(tape, useTape());
        lawReader.readAllLines();
        wrongByte = text.wrong;
        if (wrongByte != NONE) {
            throw new IllegalArgumentException();
        }
        now.law = lawReader.made();
        past.forget();
        return now.law.lines;
    }

    public int fault() {
        return wrongByte;
    }

    // ---- what is so now ----

    private boolean isNode(int node) {
        return node >= 0 && node < now.count && node < MOST_NODES;
    }

    public int node(int node, int what) throws IndexOutOfBoundsException, NoSuchElementException {
        if (!isNode(node)) {
            throw new IndexOutOfBoundsException();
        }
        if (what < 0 || what > 17) {
            throw new NoSuchElementException();
        }
        if (what <= 10) {
            return now.nodes[node].told(what);
        }
        turn.view.look(now);
        switch (what) {
            case 11:
                return turn.view.heldUp[node];
            case 12:
                return turn.view.omits[node];
            case 13:
                return now.law.sum(now, node, W_HOLD);
            case 14:
                return (turn.view.passing >> node) & 1;
            case 15:
                groups.load(turn.view);
                return groups.cliqueOf(node);
            case 16:
                return now.nodes[node].state == ACTIVE ? turn.view.middleOf(now, node, turn.view.passing) : 0;
            default:
                return now.knowing(node);
        }
    }

    public int shift(int node, int other) throws IndexOutOfBoundsException, IllegalArgumentException {
        if (!isNode(node) || !isNode(other)) {
            throw new IndexOutOfBoundsException();
        }
        if (node == other) {
            throw new IllegalArgumentException();
        }
        turn.view.look(now);
        return turn.view.shifts[node][other];
    }

    public boolean hears(int node, int other) throws IndexOutOfBoundsException, IllegalArgumentException {
        if (!isNode(node) || !isNode(other)) {
            throw new IndexOutOfBoundsException();
        }
        if (node == other) {
            throw new IllegalArgumentException();
        }
        turn.view.look(now);
        return isIn(turn.view.heard[node], other);
    }

    // ---- acts ----

    public int rounds(int n) throws IllegalArgumentException {
        if (n < 1 || n > MOST_AHEAD) {
            throw new IllegalArgumentException();
        }
        past.remember(now);
        int frozen = 0;
        for (int k = 0; k < n; k++) {
            frozen += turn.play(now, true);
        }
        return frozen;
    }

    public int add(int drift) throws IllegalArgumentException, IllegalStateException {
        if (drift < -MOST_RATE || drift > MOST_RATE) {
            throw new IllegalArgumentException();
        }
        if (now.count >= MOST_NODES) {
            throw new IllegalStateException();
        }
        past.remember(now);
        return now.addNode(drift);
    }

    public int power(int node, boolean is) throws IndexOutOfBoundsException, IllegalStateException {
        if (!isNode(node)) {
            throw new IndexOutOfBoundsException();
        }
        Node n = now.nodes[node];
        int was = n.state;
        boolean isOn = was == LISTENING || was == ACTIVE;
        if (is ? isOn : was == OFF) {
            throw new IllegalStateException();
        }
        past.remember(now);
        if (is) {
            // The law may ask for what is reset here, so HOLD comes first.
            n.wait = Math.min(MOST_WAIT, 2 + node + now.law.sum(now, node, W_HOLD));
            n.good = 0;
            n.bad = 0;
        }
        n.members = 0;
        n.state = is ? LISTENING : OFF;
        return was;
    }

    public int spoil(int node, int kind, int n) throws IndexOutOfBoundsException, IllegalArgumentException {
        if (!isNode(node)) {
            throw new IndexOutOfBoundsException();
        }
        if (kind < SOUND || kind > TORN) {
            throw new IllegalArgumentException();
        }
        boolean hasBy = kind == LATE || kind == TORN;
        if (hasBy && (n < 0 || n > MOST_BY)) {
            throw new IllegalArgumentException();
        }
        past.remember(now);
        int was = now.nodes[node].fault;
        now.nodes[node].fault = kind;
        now.nodes[node].faultBy = hasBy ? n : 0;
        return was;
    }

    public int set(int node, int n) throws IndexOutOfBoundsException, IllegalArgumentException {
        if (!isNode(node)) {
            throw new IndexOutOfBoundsException();
        }
        if (n < -MOST_CLOCK || n > MOST_CLOCK) {
            throw new IllegalArgumentException();
        }
        past.remember(now);
        int was = now.nodes[node].clock;
        now.nodes[node].clock = n;
        return was;
    }

    public int tune(boolean precision, int n) throws IllegalArgumentException {
        if (n < 1 || n > MOST_WIDTH) {
            throw new IllegalArgumentException();
        }
        past.remember(now);
        int was = precision ? now.precision : now.window;
        if (precision) {
            now.precision = n;
        } else {
            now.window = n;
        }
        return was;
    }

    // ---- questions about the clocks and who hears whom ----

    public int mid() throws IllegalArgumentException {
        int length = useTape();
        if (length > MOST_MID_BYTES) {
            throw new IllegalArgumentException();
        }
        for (int i = 0; i < length; i++) {
            numbers[i] = tape[i] - 128;
        }
        return midOf(numbers, length);
    }

    public int spread() {
        return now.spreadOfClocks();
    }

    public boolean agreed() {
        int first = NONE;
        for (int i = 0; i < now.count; i++) {
            if (now.nodes[i].state == ACTIVE) {
                if (first != NONE && first != now.nodes[i].members) {
                    return false;
                }
                first = now.nodes[i].members;
            }
        }
        return true;
    }

    public int cliques() {
        turn.view.look(now);
        groups.load(turn.view);
        return groups.countCliques();
    }

    public int settles(int s) throws IllegalArgumentException {
        if (s < 0 || s > MOST_CLOCK) {
            throw new IllegalArgumentException();
        }
        draft.copyFrom(now);
        for (int n = 0; n <= MOST_AHEAD; n++) {
            if (Integer.bitCount(draft.inState(ACTIVE)) >= 2 && draft.spreadOfClocks() <= s) {
                return n;
            }
            turn.play(draft, false);
        }
        return NONE;
    }

    private static boolean isAhead(int n) {
        return n >= 0 && n <= MOST_AHEAD;
    }

    public int widest(int n) throws IllegalArgumentException {
        if (!isAhead(n)) {
            throw new IllegalArgumentException();
        }
        draft.copyFrom(now);
        int most = draft.spreadOfClocks();
        for (int k = 0; k < n; k++) {
            turn.play(draft, false);
            most = Math.max(most, draft.spreadOfClocks());
        }
        return most;
    }

    public int leads(boolean which) {
        draft.copyFrom(now);
        for (int n = 0; n <= MOST_AHEAD; n++) {
            int active = draft.inState(ACTIVE);
            if (active != 0) {
                return which ? lowest(active) : n;
            }
            turn.play(draft, false);
        }
        return NONE;
    }

    public int narrow() {
        turn.view.look(now);
        int least = 1;
        for (int i = 0; i < now.count; i++) {
            Node n = now.nodes[i];
            if (n.state == ACTIVE && n.fault != SILENT) {
                least = Math.max(least, Math.abs(n.clock + turn.view.heldUp[i]));
            }
        }
        return least > MOST_WIDTH ? NONE : least;
    }

    public int tight() {
        turn.view.look(now);
        int active = turn.view.active;
        int least = 1;
        for (int i = 0; i < now.count; i++) {
            for (int j = 0; j < now.count; j++) {
                if (i != j && isIn(active, i) && isIn(active, j)) {
                    least = Math.max(least, Math.abs(turn.view.shifts[j][i] - now.nodes[i].clock));
                }
            }
        }
        return least > MOST_WIDTH ? NONE : least;
    }

    public int spare() {
        turn.view.look(now);
        groups.load(turn.view);
        return groups.fewestToSpare();
    }

    public int order(int k) {
        return k == NONE ? now.spreadOfClocks() : groups.inOrder(now, k);
    }

    // ---- questions about what was told ----

    /** The TAPE's rows of READ, or NONE, if it is not that; it is used up. */
    private int courseRows() {
        int length = useTape();
        if (length > MOST_READ_BYTES || length % 2 != 0) {
            return NONE;
        }
        for (int i = 0; i < length; i += 2) {
            if (tape[i] > 99) {
                return NONE;
            }
        }
        return length / 2;
    }

    public int read(boolean first) throws IllegalArgumentException {
        int rows = courseRows();
        if (rows == NONE) {
            throw new IllegalArgumentException();
        }
        guess.weighCourses(tape, rows);
        return first ? guess.firstFit() : guess.countFits();
    }

    public int when() throws IllegalArgumentException {
        int rows = courseRows();
        if (rows == NONE) {
            throw new IllegalArgumentException();
        }
        guess.weighCourses(tape, rows);
        return guess.bestRound();
    }

    /** The TAPE's rows of BLAME, or NONE, if it is not that; it is used up. */
    private int judgementRows() {
        int length = useTape();
        if (length > MOST_BLAME_BYTES || length % 3 != 0) {
            return NONE;
        }
        for (int i = 0; i + 2 < length; i += 3) {
            boolean isPair = tape[i] < MOST_NODES && tape[i + 1] < MOST_NODES && tape[i] != tape[i + 1];
            if (!isPair || tape[i + 2] > 1) {
                return NONE;
            }
        }
        return length / 3;
    }

    public int blame() throws IllegalArgumentException {
        int rows = judgementRows();
        if (rows == NONE) {
            throw new IllegalArgumentException();
        }
        guess.weighBlames(tape, rows);
        return guess.countFits();
    }

    public int guilty() throws IllegalArgumentException {
        int rows = judgementRows();
        if (rows == NONE) {
            throw new IllegalArgumentException();
        }
        guess.weighBlames(tape, rows);
        return guess.firstFit();
    }

    public int probe() throws IllegalArgumentException {
        int rows = judgementRows();
        if (rows == NONE) {
            throw new IllegalArgumentException();
        }
        guess.weighBlames(tape, rows);
        return guess.bestPair();
    }

    // ---- choices and odds ----

    public int pairs(int node) throws IndexOutOfBoundsException {
        if (node != NONE && !isNode(node)) {
            throw new IndexOutOfBoundsException();
        }
        turn.view.look(now);
        groups.load(turn.view);
        groups.weighPairs(now);
        return node == NONE ? groups.mostOfPairs() : groups.partnerOf(node);
    }

    public int share(int node, int n) throws IndexOutOfBoundsException, IllegalArgumentException {
        if (!isNode(node)) {
            throw new IndexOutOfBoundsException();
        }
        if (n < 0 || n > 99) {
            throw new IllegalArgumentException();
        }
        for (int i = 0; i < slots.length; i++) {
            slots[i] = 0;
        }
        for (int k = 0; k < n; k++) {
            slots[nextOfShare()]++;
        }
        return slots[node];
    }

    private int nextOfShare() {
        int next = 0;
        int most = NONE;
        for (int i = 0; i < now.count; i++) {
            int claim = (100 - now.nodes[i].flaky) / (Math.max(0, slots[i]) + 1);
            if (claim > most) {
                most = claim;
                next = i;
            }
        }
        return next;
    }

    public int rests(int node) throws IndexOutOfBoundsException {
        if (!isNode(node)) {
            throw new IndexOutOfBoundsException();
        }
        int bits = 0;
        for (int guardian = 0; guardian < 2; guardian++) {
            for (int babbler = 0; babbler < 2; babbler++) {
                boolean stays = guardianHas(node, guardian, babbler) >= guardianHas(node, 1 - guardian, babbler)
                    && babblerHas(guardian, babbler) >= babblerHas(guardian, 1 - babbler);
                if (stays) {
                    bits |= bit(2 * guardian + babbler);
                }
            }
        }
        return bits;
    }

    private int guardianHas(int node, int guardian, int babbler) {
        if (!isNode(node)) {
            return 0;
        }
        Node n = now.nodes[node];
        if (guardian == 0) {
            return babbler == 0 ? n.good : -n.good;
        }
        return babbler == 0 ? -n.bad - 1 : 2;
    }

    private static int babblerHas(int guardian, int babbler) {
        if (guardian == 0) {
            return babbler == 0 ? -1 : 0;
        }
        return babbler == 0 ? 2 : 1;
    }

    public int odds(int node, int n, int k) throws IndexOutOfBoundsException, IllegalArgumentException {
        if (!isNode(node)) {
            throw new IndexOutOfBoundsException();
        }
        if (n < 0 || n > 5 || k < 0 || k > 5) {
            throw new IllegalArgumentException();
        }
        turn.view.look(now);
        long omits = turn.view.omits[node];
        long ways = 0;
        long all = 1;
        for (int i = 0; i < n; i++) {
            all *= 100;
        }
        for (int some = k; some <= n; some++) {
            long way = 1;
            for (int i = 0; i < n; i++) {
                way *= i < some ? omits : 100 - omits;
            }
            ways += way * choose(n, some);
        }
        return (int) (ways * 10000 / Math.max(1, all));
    }

    private static int choose(int n, int some) {
        int ways = 1;
        for (int i = 1; i <= some; i++) {
            ways = ways * (n - some + i) / i;
        }
        return ways;
    }

    public int most(int what) throws NoSuchElementException {
        if (what < 0 || what > 2) {
            throw new NoSuchElementException();
        }
        int which = NONE;
        int most = 0;
        for (int i = 0; i < now.count; i++) {
            Node n = now.nodes[i];
            int speed = n.drift + n.rate;
            int rank = what == 0 ? speed : what == 1 ? -speed : Math.abs(n.clock);
            if (which == NONE || rank > most) {
                which = i;
                most = rank;
            }
        }
        return which;
    }

    public int byState(int state) throws NoSuchElementException {
        if (state < OFF || state > FROZEN) {
            throw new NoSuchElementException();
        }
        return now.inState(state);
    }

    public int twins() {
        int pairs = 0;
        for (int i = 0; i < now.count; i++) {
            for (int j = i + 1; j < now.count; j++) {
                boolean like = now.nodes[i].drift == now.nodes[j].drift && now.nodes[i].state == now.nodes[j].state;
                pairs += like ? 1 : 0;
            }
        }
        return pairs;
    }

    // ---- what would be ----

    public int ahead(int node, int n, boolean state) throws IndexOutOfBoundsException, IllegalArgumentException {
        if (!isNode(node)) {
            throw new IndexOutOfBoundsException();
        }
        if (!isAhead(n)) {
            throw new IllegalArgumentException();
        }
        draft.copyFrom(now);
        playDraft(n, false);
        return state ? draft.nodes[node].state : draft.nodes[node].clock;
    }

    private void playDraft(int n, boolean draws) {
        for (int k = 0; k < n; k++) {
            turn.play(draft, draws);
        }
    }

    public int trial(int n, boolean spread) throws IllegalArgumentException {
        if (!isAhead(n)) {
            throw new IllegalArgumentException();
        }
        draft.copyFrom(now);
        playDraft(n, true);
        return spread ? draft.spreadOfClocks() : draft.inState(ACTIVE);
    }

    public int span(int n, boolean most) throws IllegalArgumentException {
        if (!isAhead(n)) {
            throw new IllegalArgumentException();
        }
        int best = most ? 0 : MOST_NODES;
        for (int from = 1; from <= LAST_TRIAL_SEED; from++) {
            draft.copyFrom(now);
            draft.seed = from;
            playDraft(n, true);
            int active = Integer.bitCount(draft.inState(ACTIVE));
            best = most ? Math.max(best, active) : Math.min(best, active);
        }
        return best;
    }

    // ---- the log, acts undone, the image ----

    public int led(int node, boolean round) throws IndexOutOfBoundsException {
        if (!isNode(node)) {
            throw new IndexOutOfBoundsException();
        }
        int rows = 0;
        int latest = NONE;
        for (int ago = now.rowCount - 1; ago >= 0; ago--) {
            if (now.rowOf(ago, 1) == node) {
                rows++;
                latest = now.rowOf(ago, 0);
            }
        }
        return round ? latest : rows;
    }

    public int log(int ago, int what) throws NoSuchElementException {
        if (what < 0 || what > 3) {
            throw new NoSuchElementException();
        }
        return now.rowOf(ago, what);
    }

    public int seed(int n) {
        int was = now.seed;
        now.seed = n;
        return was;
    }

    public boolean undo() {
        return past.recall(now);
    }

    public void image() {
        kept.copyFrom(now);
        isKept = true;
    }

    public boolean back() {
        if (!isKept) {
            return false;
        }
        now.copyFrom(kept);
        past.forget();
        return true;
    }

    public int count(int what) {
        switch (what) {
            case 0:
                return now.count;
            case 1:
                return now.texts;
            case 2:
                return now.law.lines;
            case 3:
                return now.window;
            case 4:
                return now.precision;
            case 5:
                return now.round;
            case 6:
                return Integer.bitCount(now.inState(ACTIVE));
            case 7:
                return now.rowCount;
            case 8:
                return past.size;
            default:
                return NONE;
        }
    }

    // ---- numbers and sets ----

    private static int bit(int i) {
        return 1 << i;
    }

    private static boolean isIn(int set, int i) {
        return ((set >> i) & 1) != 0;
    }

    private static int lowest(int set) {
        for (int i = 0; i < MOST_NODES; i++) {
            if (isIn(set, i)) {
                return i;
            }
        }
        return NONE;
    }

    private static int keepWithin(int n, int most) {
        return Math.max(-most, Math.min(most, n));
    }

    /** MID of the first of these; they are put in order on the way. */
    private static int midOf(int[] some, int length) {
        if (length < 1 || length > some.length) {
            return 0;
        }
        sort(some, length);
        int cut = length >= 8 ? 2 : length >= 3 ? 1 : 0;
        return (some[cut] + some[length - 1 - cut]) / 2;
    }

    private static void sort(int[] some, int length) {
        for (int i = 1; i < length && i < some.length; i++) {
            int n = some[i];
            int at = i;
            for (int j = i - 1; j >= 0 && some[j] > n; j--) {
                some[j + 1] = some[j];
                at = j;
            }
            some[at] = n;
        }
    }

    // ---- the classes inside ----

    private static final class Node {
        int clock;
        int drift;
        int rate;
        int state = LISTENING;
        int wait;
        int members;
        int good;
        int bad;
        int flaky;
        int fault = SOUND;
        int faultBy;

        void copyFrom(Node other) {
            clock = other.clock;
            drift = other.drift;
            rate = other.rate;
            state = other.state;
            wait = other.wait;
            members = other.members;
            good = other.good;
            bad = other.bad;
            flaky = other.flaky;
            fault = other.fault;
            faultBy = other.faultBy;
        }

        /** Slots are used again after acts were undone, so all is written anew. */
        void reset(int number, int itsDrift) {
            clock = 0;
            drift = itsDrift;
            rate = 0;
            state = LISTENING;
            wait = 2 + number;
            members = 0;
            good = 0;
            bad = 0;
            flaky = 0;
            fault = SOUND;
            faultBy = 0;
        }

        int told(int what) {
            switch (what) {
                case 0:
                    return clock;
                case 1:
                    return drift;
                case 2:
                    return rate;
                case 3:
                    return state;
                case 4:
                    return wait;
                case 5:
                    return members;
                case 6:
                    return good;
                case 7:
                    return bad;
                case 8:
                    return flaky;
                case 9:
                    return fault;
                default:
                    return faultBy;
            }
        }
    }

    /** All that undoing and THE IMAGE bring back. */
    private static final class State {
        final Node[] nodes = new Node[MOST_NODES];
        final int[] rows = new int[4 * MOST_ROWS];
        int rowCount;
        int rowNext;
        int count;
        int window = 100;
        int precision = 50;
        int round;
        int seed = 1;
        int texts;
        Law law;

        State(Law noLaw) {
            law = noLaw;
            for (int i = 0; i < nodes.length; i++) {
                nodes[i] = new Node();
            }
        }

        void copyFrom(State other) {
            for (int i = 0; i < nodes.length; i++) {
                nodes[i].copyFrom(other.nodes[i]);
            }
            System.arraycopy(other.rows, 0, rows, 0, rows.length);
            rowCount = other.rowCount;
            rowNext = other.rowNext;
            count = other.count;
            window = other.window;
            precision = other.precision;
            round = other.round;
            seed = other.seed;
            texts = other.texts;
            law = other.law;
        }

        int addNode(int drift) {
            if (count >= nodes.length) {
                return NONE;
            }
            int number = count;
            nodes[number].reset(number, drift);
            count++;
            return number;
        }

        int inState(int state) {
            int bits = 0;
            for (int i = 0; i < count; i++) {
                if (nodes[i].state == state) {
                    bits |= bit(i);
                }
            }
            return bits;
        }

        int knowing(int node) {
            int bits = 0;
            for (int i = 0; i < count; i++) {
                if (isIn(nodes[i].members, node)) {
                    bits |= bit(i);
                }
            }
            return bits;
        }

        int spreadOfClocks() {
            boolean any = false;
            int least = 0;
            int greatest = 0;
            for (int i = 0; i < count; i++) {
                if (nodes[i].state == ACTIVE) {
                    int clock = nodes[i].clock;
                    least = any ? Math.min(least, clock) : clock;
                    greatest = any ? Math.max(greatest, clock) : clock;
                    any = true;
                }
            }
            return greatest - least;
        }

        int draw() {
            seed = 1103515245 * seed + 12345;
            return (seed >>> 16) & 32767;
        }

        void note(int node, int kind, int more) {
            int at = 4 * rowNext;
            if (at < 0 || at + 3 >= rows.length) {
                return;
            }
            rows[at] = round;
            rows[at + 1] = node;
            rows[at + 2] = kind;
            rows[at + 3] = more;
            rowNext = (rowNext + 1) % MOST_ROWS;
            rowCount = Math.min(MOST_ROWS, rowCount + 1);
        }

        int rowOf(int ago, int what) {
            if (ago < 0 || ago >= rowCount || what < 0 || what > 3) {
                return NONE;
            }
            int row = (rowNext + MOST_ROWS - 1 - ago) % MOST_ROWS;
            int at = 4 * row + what;
            return at >= 0 && at < rows.length ? rows[at] : NONE;
        }
    }

    /** THE LAW: of each LINE its first word, N, and where its condition's code begins and ends. */
    private static final class Law {
        final int lines;
        private final int[] kinds;
        private final int[] bys;
        private final int[] starts;
        private final int[] code;
        private final int[] stack = new int[32];

        Law(int lines, int[] kinds, int[] bys, int[] starts, int[] code) {
            this.lines = lines;
            this.kinds = kinds;
            this.bys = bys;
            this.starts = starts;
            this.code = code;
        }

        int sum(State s, int node, int kind) {
            int sum = 0;
            boolean alone = (s.inState(ACTIVE) & ~bit(node)) == 0;
            for (int line = 0; line < lines && line < kinds.length && line < bys.length; line++) {
                if (kinds[line] == kind && holds(s, node, line, alone)) {
                    sum += bys[line];
                }
            }
            return sum;
        }

        private boolean holds(State s, int node, int line, boolean alone) {
            if (line < 0 || line + 1 >= starts.length) {
                return false;
            }
            int top = 0;
            for (int p = Math.max(0, starts[line]); p < starts[line + 1] && p < code.length; p++) {
                int op = code[p];
                if (op <= W_FLAKY) {
                    if (top < stack.length) {
                        stack[top] = partOf(s, node, op, alone);
                        top++;
                    }
                } else if (op == W_NOT) {
                    if (top >= 1) {
                        stack[top - 1] = 1 - stack[top - 1];
                    }
                } else if (top >= 2) {
                    top--;
                    stack[top - 1] = joined(op, stack[top - 1], stack[top]);
                }
            }
            return top < 1 || stack[0] != 0;
        }

        private static int joined(int op, int left, int right) {
            switch (op) {
                case S_PLUS:
                    return left + right;
                case S_LESS:
                    return left < right ? 1 : 0;
                case S_MORE:
                    return left > right ? 1 : 0;
                case W_AND:
                    return left & right;
                default:
                    return left | right;
            }
        }

        private static int partOf(State s, int node, int op, boolean alone) {
            if (op < FIRST_WORD || node < 0 || node >= s.count) {
                return op;
            }
            Node n = s.nodes[node];
            switch (op) {
                case W_NODE:
                    return node;
                case W_FAST:
                    return Math.max(0, n.drift + n.rate);
                case W_SLOW:
                    return Math.max(0, -n.drift - n.rate);
                case W_MEMBERS:
                    return Integer.bitCount(n.members);
                case W_GOOD:
                    return n.good;
                case W_BAD:
                    return n.bad;
                case W_WAIT:
                    return n.wait;
                case W_EVEN:
                    return s.round % 2 == 0 ? 1 : 0;
                case W_ALONE:
                    return alone ? 1 : 0;
                default:
                    return n.flaky > 0 ? 1 : 0;
            }
        }
    }

    /** What each NODE sends and hears, as it is when it was last looked at. */
    private static final class View {
        /** shifts[i][j]: SHIFT of i for j. */
        final int[][] shifts = new int[MOST_NODES][MOST_NODES];
        /** Of each NODE those that it HEARS, as bits. */
        final int[] heard = new int[MOST_NODES];
        final int[] heldUp = new int[MOST_NODES];
        final int[] omits = new int[MOST_NODES];
        int active;
        int passing;
        private final int[] numbers = new int[MOST_NODES];

        void look(State s) {
            active = s.inState(ACTIVE);
            passing = 0;
            for (int i = 0; i < s.count; i++) {
                Node n = s.nodes[i];
                heldUp[i] = s.law.sum(s, i, W_LATE) + (n.fault == LATE ? n.faultBy : 0);
                omits[i] = n.fault == SILENT ? 100 : Math.min(100, n.flaky + s.law.sum(s, i, W_OMIT));
                int sends = n.clock + heldUp[i];
                for (int j = 0; j < s.count; j++) {
                    shifts[i][j] = sends + (n.fault == TORN && j % 2 == 1 ? n.faultBy : 0);
                }
                if (n.state == ACTIVE && n.fault != SILENT && Math.abs(sends) <= s.window) {
                    passing |= bit(i);
                }
            }
            for (int i = 0; i < s.count; i++) {
                heard[i] = 0;
                for (int j = 0; j < s.count; j++) {
                    if (i != j && Math.abs(shifts[j][i] - s.nodes[i].clock) <= s.precision) {
                        heard[i] |= bit(j);
                    }
                }
            }
        }

        /** MID of 0 and of how far each other one of the senders that i HEARS is off for it. */
        int middleOf(State s, int i, int senders) {
            int length = 0;
            for (int j = 0; j < s.count; j++) {
                if (j == i) {
                    numbers[length] = 0;
                    length++;
                } else if (isIn(senders & heard[i], j)) {
                    numbers[length] = shifts[j][i] - s.nodes[i].clock;
                    length++;
                }
            }
            return midOf(numbers, length);
        }
    }

    /** One ROUND, by the steps (a) to (g) of the document. */
    private static final class Turn {
        final View view = new View();
        private final int[] judged = new int[MOST_NODES];

        /** How many were FROZEN in it. */
        int play(State s, boolean draws) {
            view.look(s);
            int old = view.active;
            int senders = sendersOf(s, old, draws);
            if (senders == 0) {
                callOrWait(s);
            } else {
                joinAll(s, senders);
            }
            judge(s, old, senders);
            int frozen = acknowledge(s, senders);
            frozen |= outvote(s, old & ~frozen);
            correct(s, old & ~frozen, senders);
            runClocks(s);
            s.round = Math.min(MOST_ROUND, s.round + 1);
            return Integer.bitCount(frozen);
        }

        private int sendersOf(State s, int old, boolean draws) {
            int senders = 0;
            for (int i = 0; i < s.count; i++) {
                if (isIn(old, i)) {
                    boolean omits = draws ? s.draw() % 100 < view.omits[i] : view.omits[i] >= 100;
                    if (!omits && isIn(view.passing, i)) {
                        senders |= bit(i);
                    }
                }
            }
            return senders;
        }

        private static void callOrWait(State s) {
            int calling = 0;
            for (int i = 0; i < s.count; i++) {
                Node n = s.nodes[i];
                if (n.state == LISTENING) {
                    n.wait = Math.max(0, n.wait - 1);
                    calling |= n.wait == 0 ? bit(i) : 0;
                }
            }
            boolean collide = Integer.bitCount(calling) > 1;
            for (int i = 0; i < s.count; i++) {
                Node n = s.nodes[i];
                if (isIn(calling, i) && collide) {
                    n.wait = Math.min(MOST_WAIT, 3 + i + s.law.sum(s, i, W_HOLD));
                    s.note(i, COLLIDED, n.wait);
                } else if (isIn(calling, i)) {
                    n.state = ACTIVE;
                    n.members = bit(i);
                    n.rate = 0;
                    s.note(i, CALLED, 0);
                }
            }
        }

        private void joinAll(State s, int senders) {
            int lead = lowest(senders);
            if (lead < 0 || lead >= s.count) {
                return;
            }
            for (int i = 0; i < s.count; i++) {
                Node n = s.nodes[i];
                if (n.state == LISTENING) {
                    n.clock = keepWithin(view.shifts[lead][i], MOST_CLOCK);
                    n.members = s.nodes[lead].members | bit(i);
                    n.state = ACTIVE;
                    s.note(i, JOINED, lead);
                }
            }
        }

        private void judge(State s, int old, int senders) {
            for (int i = 0; i < s.count; i++) {
                if (isIn(old, i)) {
                    Node n = s.nodes[i];
                    int others = senders & ~bit(i);
                    n.members = others & view.heard[i] | senders & bit(i);
                    n.good = Integer.bitCount(n.members);
                    n.bad = Integer.bitCount(others & ~view.heard[i]);
                }
            }
        }

        private int acknowledge(State s, int senders) {
            int frozen = 0;
            for (int i = 0; i < s.count; i++) {
                judged[i] = s.nodes[i].members;
            }
            for (int i = 0; i < s.count; i++) {
                int next = nextOf(senders, i);
                if (isIn(senders, i) && next != i && !isIn(judged[next], i)) {
                    int second = nextOf(senders, next);
                    if (second != i && isIn(judged[second], i)) {
                        s.nodes[i].members &= ~bit(next);
                    } else {
                        freeze(s, i, UNACKNOWLEDGED);
                        frozen |= bit(i);
                    }
                }
            }
            return frozen;
        }

        /** The next one of the set behind i, round behind the last one; i, if there is no other. */
        private static int nextOf(int set, int i) {
            for (int k = 1; k < MOST_NODES; k++) {
                int j = (i + k) & (MOST_NODES - 1);
                if (isIn(set, j)) {
                    return j;
                }
            }
            return i;
        }

        private static int outvote(State s, int judges) {
            int frozen = 0;
            for (int i = 0; i < s.count; i++) {
                Node n = s.nodes[i];
                if (isIn(judges, i) && n.bad > 0 && n.good <= n.bad) {
                    freeze(s, i, OUTVOTED);
                    frozen |= bit(i);
                }
            }
            return frozen;
        }

        private static void freeze(State s, int i, int kind) {
            s.nodes[i].state = FROZEN;
            s.note(i, kind, s.nodes[i].bad);
        }

        private void correct(State s, int running, int senders) {
            for (int i = 0; i < s.count; i++) {
                if (isIn(running, i)) {
                    Node n = s.nodes[i];
                    int off = view.middleOf(s, i, senders);
                    if (s.round % 2 == 0) {
                        n.clock += off;
                    } else {
                        n.rate = keepWithin(n.rate + off / 4, MOST_RATE);
                    }
                }
            }
        }

        private static void runClocks(State s) {
            for (int i = 0; i < s.count; i++) {
                Node n = s.nodes[i];
                if (n.state != OFF) {
                    n.clock = keepWithin(n.clock + n.drift + n.rate, MOST_CLOCK);
                }
            }
        }
    }

    /** FRIENDS and what is asked about them. */
    private static final class Groups {
        private int active;
        private final int[] friends = new int[MOST_NODES];
        /** Of each set of NODES the most that its pairs have together. */
        private final int[] best = new int[1 << MOST_NODES];
        private final int[] worth = new int[MOST_NODES * MOST_NODES];
        private final int[] row = new int[MOST_NODES];

        void load(View view) {
            active = view.active;
            for (int i = 0; i < MOST_NODES; i++) {
                friends[i] = 0;
                for (int j = 0; j < MOST_NODES; j++) {
                    boolean both = i != j && isIn(active, i) && isIn(active, j);
                    if (both && isIn(view.heard[i], j) && isIn(view.heard[j], i)) {
                        friends[i] |= bit(j);
                    }
                }
            }
        }

        int cliqueOf(int node) {
            int all = active & bit(node);
            for (int k = 0; k < MOST_NODES; k++) {
                for (int i = 0; i < MOST_NODES; i++) {
                    if (isIn(all, i)) {
                        all |= friends[i];
                    }
                }
            }
            return all;
        }

        int countCliques() {
            int left = active;
            int cliques = 0;
            for (int i = 0; i < MOST_NODES; i++) {
                if (isIn(left, i)) {
                    left &= ~cliqueOf(i);
                    cliques++;
                }
            }
            return cliques;
        }

        int fewestToSpare() {
            int fewest = active;
            for (int set = 0; set < 1 << MOST_NODES; set++) {
                boolean fewer = Integer.bitCount(set) < Integer.bitCount(fewest);
                if (fewer && (set & ~active) == 0 && areFriends(active & ~set)) {
                    fewest = set;
                }
            }
            return fewest;
        }

        private boolean areFriends(int set) {
            for (int i = 0; i < MOST_NODES; i++) {
                if (isIn(set, i) && (set & ~bit(i) & ~friends[i]) != 0) {
                    return false;
                }
            }
            return true;
        }

        /** Going straight from one end of the CLOCKS to the other is the least: so just two ways vie. */
        int inOrder(State s, int k) {
            int length = putInOrder(s, 1);
            if (k < 0 || k >= length) {
                return NONE;
            }
            int first = row[0];
            putInOrder(s, -1);
            if (first < row[0]) {
                putInOrder(s, 1);
            }
            return row[k];
        }

        /** ACTIVE ones by CLOCK times way, like ones by number: how many. */
        private int putInOrder(State s, int way) {
            int length = 0;
            for (int i = 0; i < s.count; i++) {
                if (s.nodes[i].state == ACTIVE) {
                    int at = length;
                    for (int j = length - 1; j >= 0 && s.nodes[row[j]].clock * way > s.nodes[i].clock * way; j--) {
                        row[j + 1] = row[j];
                        at = j;
                    }
                    row[at] = i;
                    length++;
                }
            }
            return length;
        }

        void weighPairs(State s) {
            for (int i = 0; i < MOST_NODES; i++) {
                for (int j = 0; j < MOST_NODES; j++) {
                    int apart = Math.abs(s.nodes[i].clock - s.nodes[j].clock);
                    worth[MOST_NODES * i + j] = isIn(friends[i], j) ? Math.max(0, 100 - apart) : 0;
                }
            }
            best[0] = 0;
            for (int set = 1; set < best.length; set++) {
                int i = lowest(set);
                int rest = set & ~bit(i);
                int most = best[rest];
                for (int j = i + 1; j < MOST_NODES; j++) {
                    if (isIn(rest, j)) {
                        most = Math.max(most, worth[MOST_NODES * i + j] + best[rest & ~bit(j)]);
                    }
                }
                best[set] = most;
            }
        }

        int mostOfPairs() {
            return best[best.length - 1];
        }

        int partnerOf(int node) {
            int left = best.length - 1;
            for (int i = 0; i < MOST_NODES; i++) {
                if (isIn(left, i)) {
                    left &= ~bit(i);
                    int with = firstPartner(left, i);
                    if (i == node || with == node) {
                        return i == node ? with : i;
                    }
                    left &= with == NONE ? left : ~bit(with);
                }
            }
            return NONE;
        }

        /** The first choice of i, the least one of the set, that leaves the most; rest: the set without it. */
        private int firstPartner(int rest, int i) {
            int most = best[rest | bit(i)];
            if (best[rest] == most) {
                return NONE;
            }
            for (int j = i + 1; j < MOST_NODES; j++) {
                if (isIn(rest, j) && worth[MOST_NODES * i + j] + best[rest & ~bit(j)] == most) {
                    return j;
                }
            }
            return NONE;
        }
    }

    /** READ and BLAME: how many rows would be wrong by each of what may be, one of which is. */
    private static final class Guess {
        private static final int FROMS = 81;
        private static final int BYS = 19;
        private static final int LAST_ROUND = 9;
        private static final int LEAST_CLOCK = -40 - 9 * LAST_ROUND;
        private final int[] wrong = new int[FROMS * BYS];
        private final int[] parts = new int[1 - 2 * LEAST_CLOCK];
        private int guesses;

        private static int clockOf(int course, int round) {
            return course / BYS - 40 + (course % BYS - 9) * round;
        }

        void weighCourses(int[] tape, int rows) {
            guesses = FROMS * BYS;
            for (int course = 0; course < guesses; course++) {
                wrong[course] = 0;
                for (int row = 0; row < rows && 2 * row + 1 < tape.length; row++) {
                    if (clockOf(course, tape[2 * row]) != tape[2 * row + 1] - 128) {
                        wrong[course]++;
                    }
                }
            }
        }

        /** Guess 0: nobody; 1 and on: a sender; 9 and on: a receiver. */
        private static boolean isHeard(int culprit, int sender, int receiver) {
            return culprit != 1 + sender && culprit != 1 + MOST_NODES + receiver;
        }

        void weighBlames(int[] tape, int rows) {
            guesses = 1 + 2 * MOST_NODES;
            for (int culprit = 0; culprit < guesses; culprit++) {
                wrong[culprit] = 0;
                for (int at = 0; at < 3 * rows && at + 2 < tape.length; at += 3) {
                    if (isHeard(culprit, tape[at], tape[at + 1]) != (tape[at + 2] == 1)) {
                        wrong[culprit]++;
                    }
                }
            }
        }

        int countFits() {
            int fits = 0;
            for (int i = 0; i < guesses; i++) {
                fits += wrong[i] <= 1 ? 1 : 0;
            }
            return fits;
        }

        int firstFit() {
            int first = NONE;
            int fewest = 2;
            for (int i = 0; i < guesses; i++) {
                if (wrong[i] < fewest) {
                    fewest = wrong[i];
                    first = i;
                }
            }
            return first;
        }

        int bestRound() {
            if (countFits() < 2) {
                return NONE;
            }
            int best = NONE;
            int least = 0;
            for (int round = 0; round <= LAST_ROUND; round++) {
                int greatest = greatestPart(round);
                if (best == NONE || greatest < least) {
                    best = round;
                    least = greatest;
                }
            }
            return best;
        }

        private int greatestPart(int round) {
            for (int i = 0; i < parts.length; i++) {
                parts[i] = 0;
            }
            int greatest = 0;
            for (int course = 0; course < guesses; course++) {
                int part = clockOf(course, round) - LEAST_CLOCK;
                if (wrong[course] <= 1 && part >= 0 && part < parts.length) {
                    parts[part]++;
                    greatest = Math.max(greatest, parts[part]);
                }
            }
            return greatest;
        }

        int bestPair() {
            int fits = countFits();
            if (fits < 2) {
                return NONE;
            }
            int best = NONE;
            int least = 0;
            for (int pair = 0; pair < MOST_NODES * MOST_NODES; pair++) {
                int sender = pair / MOST_NODES;
                int receiver = pair % MOST_NODES;
                int hearing = countHearing(sender, receiver);
                int greater = Math.max(hearing, fits - hearing);
                if (sender != receiver && (best == NONE || greater < least)) {
                    best = pair;
                    least = greater;
                }
            }
            return best;
        }

        private int countHearing(int sender, int receiver) {
            int hearing = 0;
            for (int culprit = 0; culprit < guesses; culprit++) {
                hearing += wrong[culprit] <= 1 && isHeard(culprit, sender, receiver) ? 1 : 0;
            }
            return hearing;
        }
    }

    /** The latest ACTS: all as it was ahead of each. */
    private static final class Past {
        private final State[] before = new State[MOST_ACTS];
        private int next;
        int size;

        Past(Law noLaw) {
            for (int i = 0; i < before.length; i++) {
                before[i] = new State(noLaw);
            }
        }

        void remember(State s) {
            before[next].copyFrom(s);
            next = (next + 1) % MOST_ACTS;
            size = Math.min(MOST_ACTS, size + 1);
        }

        boolean recall(State s) {
            if (size < 1) {
                return false;
            }
            next = (next + MOST_ACTS - 1) % MOST_ACTS;
            size--;
            s.copyFrom(before[next]);
            return true;
        }

        void forget() {
            size = 0;
        }
    }

    /** A text's words, numbers and signs, one by one, and where the first wrong one begins. */
    private static final class Text {
        int wrong = NONE;
        private final int[] codes = new int[MOST_BYTES + 1];
        private final int[] begins = new int[MOST_BYTES + 1];
        private int size;
        private int at;

        void load(int[] tape, int length) {
            size = 0;
            at = 0;
            wrong = NONE;
            int end = Math.min(length, tape.length);
            int before = BLANK;
            for (int p = 0; p < end; p++) {
                int c = tape[p];
                boolean goesOn = isLetter(c) && isLetter(before) || isDigit(c) && isDigit(before);
                if (c != BLANK && !goesOn) {
                    put(p, isLetter(c) ? wordAt(tape, p, end) : isDigit(c) ? numberAt(tape, p, end) : FIRST_SIGN + c);
                }
                before = c;
            }
            put(end, T_END);
        }

        private static boolean isLetter(int c) {
            return c >= 'a' && c <= 'z';
        }

        private static boolean isDigit(int c) {
            return c >= '0' && c <= '9';
        }

        private void put(int begin, int code) {
            if (size < codes.length) {
                codes[size] = code;
                begins[size] = begin;
                size++;
            }
        }

        private static int wordAt(int[] tape, int begin, int end) {
            int p = begin;
            boolean fits = true;
            int code = FIRST_WORD;
            for (int i = 0; i < WORDS.length(); i++) {
                char c = WORDS.charAt(i);
                if (c != BLANK) {
                    fits = fits && p < end && tape[p] == c;
                    p++;
                } else if (fits && (p >= end || !isLetter(tape[p]))) {
                    return code;
                } else {
                    code++;
                    p = begin;
                    fits = true;
                }
            }
            return T_BAD;
        }

        private static int numberAt(int[] tape, int begin, int end) {
            int number = 0;
            int digits = 0;
            for (int p = begin; p < end && isDigit(tape[p]); p++) {
                number = digits < 3 ? 10 * number + tape[p] - '0' : number;
                digits++;
            }
            return digits > 3 ? T_BAD : number;
        }

        boolean isAt(int code) {
            return wrong == NONE && at < size && codes[at] == code;
        }

        boolean takes(int code) {
            boolean is = wrong == NONE && at < size && codes[at] == code;
            at += is && at + 1 < size ? 1 : 0;
            return is;
        }

        /** The number that stands here; NONE and a fault, if there is none, or none of these. */
        int takeNumber(int least, int most) {
            int number = wrong == NONE && at < size ? codes[at] : NONE;
            if (number < least || number > most) {
                fail();
                return NONE;
            }
            at += at + 1 < size ? 1 : 0;
            return number;
        }

        /** The number, PART or word that stands here and is from first to last; NONE, if there is none. */
        int takeAny(int first, int last) {
            int code = wrong == NONE && at < size ? codes[at] : NONE;
            if (code < first || code > last) {
                return NONE;
            }
            at += at + 1 < size ? 1 : 0;
            return code;
        }

        /** Nothing stands here any more, so that what reads on comes to its end. */
        void fail() {
            if (wrong == NONE && at < size) {
                wrong = begins[at];
            }
        }
    }

    private static final class ClusterReader {
        private final Text text;

        ClusterReader(Text text) {
            this.text = text;
        }

        void readInto(State draft) {
            if (text.isAt(T_END)) {
                return;
            }
            for (int line = 0; line < MOST_LINES; line++) {
                readLine(draft);
                if (!text.takes(S_SEMICOLON)) {
                    if (!text.isAt(T_END)) {
                        text.fail();
                    }
                    return;
                }
            }
            text.fail();
        }

        private void readLine(State draft) {
            if (draft.count < MOST_NODES && text.takes(W_NODE)) {
                readNode(draft, draft.addNode(0));
            } else if (text.takes(W_WINDOW)) {
                draft.window = text.takeNumber(1, MOST_WIDTH);
            } else if (text.takes(W_PRECISION)) {
                draft.precision = text.takeNumber(1, MOST_WIDTH);
            } else if (text.takes(W_ROUND)) {
                draft.round = text.takeNumber(0, 999);
            } else {
                text.fail();
            }
        }

        private void readNode(State draft, int number) {
            if (number < 0 || number >= draft.count) {
                return;
            }
            Node n = draft.nodes[number];
            if (text.takes(W_AHEAD)) {
                n.clock = text.takeNumber(0, MOST_CLOCK);
            } else if (text.takes(W_BEHIND)) {
                n.clock = -text.takeNumber(0, MOST_CLOCK);
            }
            if (text.takes(W_FAST)) {
                n.drift = text.takeNumber(0, MOST_RATE);
            } else if (text.takes(W_SLOW)) {
                n.drift = -text.takeNumber(0, MOST_RATE);
            }
            if (text.takes(W_FLAKY)) {
                n.flaky = text.takeNumber(0, 100);
            }
            if (text.takes(W_LATE)) {
                n.fault = LATE;
                n.faultBy = text.takeNumber(0, MOST_BY);
            } else if (text.takes(W_SILENT)) {
                n.fault = SILENT;
            } else if (text.takes(W_TORN)) {
                n.fault = TORN;
                n.faultBy = text.takeNumber(0, MOST_BY);
            }
            if (text.takes(W_OFF)) {
                n.state = OFF;
            } else if (text.takes(W_ACTIVE)) {
                n.state = ACTIVE;
                n.members = bit(number);
            }
        }
    }

    /** Puts each condition's codes in the order in which they are worked off: operators behind. */
    private static final class LawReader {
        private final Text text;
        private final int[] kinds = new int[MOST_LAW_LINES];
        private final int[] bys = new int[MOST_LAW_LINES];
        private final int[] starts = new int[MOST_LAW_LINES + 1];
        private final int[] code = new int[MOST_BYTES];
        private int lines;
        private int length;

        LawReader(Text text) {
            this.text = text;
        }

        /** The arrays are used again by the next text, so THE LAW has its own. */
        Law made() {
            return new Law(lines, copyOf(kinds, lines), copyOf(bys, lines), copyOf(starts, lines + 1),
                copyOf(code, length));
        }

        private static int[] copyOf(int[] some, int size) {
            int kept = Math.max(0, Math.min(size, some.length));
            int[] copy = new int[kept];
            System.arraycopy(some, 0, copy, 0, kept);
            return copy;
        }

        void readAllLines() {
            lines = 0;
            length = 0;
            if (text.isAt(T_END)) {
                return;
            }
            for (int line = 0; line < MOST_LAW_LINES; line++) {
                readLine(line);
                if (!text.takes(S_SEMICOLON)) {
                    if (!text.isAt(T_END)) {
                        text.fail();
                    }
                    return;
                }
            }
            text.fail();
        }

        private void readLine(int line) {
            int kind = text.takeAny(W_LATE, W_HOLD);
            if (kind == NONE || line < 0 || line >= MOST_LAW_LINES) {
                text.fail();
                return;
            }
            kinds[line] = kind;
            bys[line] = text.takeNumber(0, MOST_BY);
            starts[line] = length;
            if (text.takes(W_IF)) {
                readAny(0);
            }
            starts[line + 1] = length;
            lines = line + 1;
        }

        private void emit(int op) {
            if (length < code.length) {
                code[length] = op;
                length++;
            }
        }

        private void readAny(int depth) {
            readEach(depth);
            for (int k = 0; k < MOST_BYTES && text.takes(W_OR); k++) {
                readEach(depth);
                emit(W_OR);
            }
        }

        private void readEach(int depth) {
            readAtom(depth);
            for (int k = 0; k < MOST_BYTES && text.takes(W_AND); k++) {
                readAtom(depth);
                emit(W_AND);
            }
        }

        private void readAtom(int depth) {
            boolean opens = text.isAt(S_OPEN) || text.isAt(W_NOT);
            if (opens && depth >= MOST_DEPTH) {
                text.fail();
                return;
            }
            if (text.takes(W_NOT)) {
                readAtom(depth + 1);
                emit(W_NOT);
                return;
            }
            if (text.takes(S_OPEN)) {
                readAny(depth + 1);
                if (!text.takes(S_CLOSE)) {
                    text.fail();
                }
                return;
            }
            int plain = text.takeAny(W_EVEN, W_FLAKY);
            if (plain != NONE) {
                emit(plain);
                return;
            }
            readSum();
            int op = text.takes(S_LESS) ? S_LESS : S_MORE;
            if (op == S_MORE && !text.takes(S_MORE)) {
                text.fail();
                return;
            }
            readSum();
            emit(op);
        }

        private void readSum() {
            boolean more = true;
            for (int parts = 0; parts < MOST_BYTES && more; parts++) {
                int part = text.takeAny(0, W_WAIT);
                if (part == NONE) {
                    text.fail();
                    return;
                }
                emit(part);
                if (parts > 0) {
                    emit(S_PLUS);
                }
                more = text.takes(S_PLUS);
            }
        }
    }
}

import java.math.BigInteger;
import java.util.ArrayDeque;
import java.util.ArrayList;
import java.util.Arrays;
import java.util.Collections;
import java.util.Deque;
import java.util.HashMap;
import java.util.List;
import java.util.Map;
import java.util.NoSuchElementException;

/**
 * The document once more, in the most literal way, by trying all that can be tried: what the class
 * answers is held against this. It shares no code with the class.
 */
final class Model {
    interface Test {
        boolean of(World w, int i);
    }

    interface Sum {
        int of(World w, int i);
    }

    static final class Wrong extends Exception {
        final int at;

        Wrong(int at) {
            this.at = at;
        }
    }

    static final class Line {
        String kind;
        int n;
        Test test;
    }

    static final class N implements Cloneable {
        int clock, drift, rate, state = 1, wait, members, good, bad, flaky, fault, by;

        N copy() {
            try {
                return (N) clone();
            } catch (CloneNotSupportedException e) {
                throw new RuntimeException(e);
            }
        }
    }

    static final class World {
        List<N> nodes = new ArrayList<>();
        int window = 100, precision = 50, round, seed = 1, texts;
        List<Line> law;
        List<int[]> log = new ArrayList<>();

        World copy() {
            World w = new World();
            for (N n : nodes) {
                w.nodes.add(n.copy());
            }
            w.window = window;
            w.precision = precision;
            w.round = round;
            w.seed = seed;
            w.texts = texts;
            w.law = law;
            w.log = new ArrayList<>(log);
            return w;
        }

        boolean active(int i) {
            return nodes.get(i).state == 2;
        }

        List<Integer> actives() {
            List<Integer> a = new ArrayList<>();
            for (int i = 0; i < nodes.size(); i++) {
                if (active(i)) {
                    a.add(i);
                }
            }
            return a;
        }

        int lawSum(String kind, int i) {
            int sum = 0;
            if (law != null) {
                for (Line l : law) {
                    if (l.kind.equals(kind) && (l.test == null || l.test.of(this, i))) {
                        sum += l.n;
                    }
                }
            }
            return sum;
        }

        int heldUp(int i) {
            return lawSum("late", i) + (nodes.get(i).fault == 1 ? nodes.get(i).by : 0);
        }

        int omits(int i) {
            if (nodes.get(i).fault == 2) {
                return 100;
            }
            return Math.min(100, nodes.get(i).flaky + lawSum("omit", i));
        }

        int shift(int from, int to) {
            N n = nodes.get(from);
            return n.clock + heldUp(from) + (n.fault == 3 && (to & 1) == 1 ? n.by : 0);
        }

        boolean hears(int i, int other) {
            int d = shift(other, i) - nodes.get(i).clock;
            return d >= -precision && d <= precision;
        }

        boolean passes(int i) {
            int c = nodes.get(i).clock + heldUp(i);
            return active(i) && nodes.get(i).fault != 2 && c >= -window && c <= window;
        }

        int spread() {
            List<Integer> clocks = new ArrayList<>();
            for (int i : actives()) {
                clocks.add(nodes.get(i).clock);
            }
            return clocks.size() < 2 ? 0 : Collections.max(clocks) - Collections.min(clocks);
        }

        int draw() {
            seed = seed * 1103515245 + 12345;
            return (seed >> 16) & 0x7fff;
        }

        void note(int node, int kind, int more) {
            log.add(new int[] {round, node, kind, more});
            if (log.size() > 60) {
                log.remove(0);
            }
        }

        static int keep(int n, int most) {
            return n > most ? most : n < -most ? -most : n;
        }

        int round(boolean draws) {
            int k = nodes.size();
            World ahead = copy();
            List<Integer> old = ahead.actives();
            List<Integer> senders = new ArrayList<>();
            for (int i : old) {
                boolean omits = draws ? draw() % 100 < ahead.omits(i) : ahead.omits(i) == 100;
                if (ahead.passes(i) && !omits) {
                    senders.add(i);
                }
            }
            if (senders.isEmpty()) {
                List<Integer> callers = new ArrayList<>();
                for (int i = 0; i < k; i++) {
                    N n = nodes.get(i);
                    if (n.state == 1) {
                        if (n.wait > 0) {
                            n.wait--;
                        }
                        if (n.wait == 0) {
                            callers.add(i);
                        }
                    }
                }
                if (callers.size() == 1) {
                    N n = nodes.get(callers.get(0));
                    n.state = 2;
                    n.members = 1 << callers.get(0);
                    n.rate = 0;
                    note(callers.get(0), 0, 0);
                } else {
                    World then = copy();
                    for (int i : callers) {
                        nodes.get(i).wait = Math.min(99, 3 + i + then.lawSum("hold", i));
                        note(i, 1, nodes.get(i).wait);
                    }
                }
            } else {
                int first = senders.get(0);
                for (int i = 0; i < k; i++) {
                    if (ahead.nodes.get(i).state == 1) {
                        nodes.get(i).clock = keep(ahead.shift(first, i), 999);
                        nodes.get(i).members = ahead.nodes.get(first).members | 1 << i;
                        nodes.get(i).state = 2;
                        note(i, 2, first);
                    }
                }
            }
            for (int i : old) {
                N n = nodes.get(i);
                n.good = 0;
                n.bad = 0;
                n.members = 0;
                for (int s : senders) {
                    if (s == i) {
                        n.good++;
                        n.members |= 1 << s;
                    } else if (ahead.hears(i, s)) {
                        n.good++;
                        n.members |= 1 << s;
                    } else {
                        n.bad++;
                    }
                }
            }
            List<Integer> gone = new ArrayList<>();
            World judged = copy();
            for (int at = 0; at < senders.size(); at++) {
                int me = senders.get(at);
                int a = senders.get((at + 1) % senders.size());
                int b = senders.get((at + 2) % senders.size());
                if (a == me || (judged.nodes.get(a).members >> me & 1) == 1) {
                    continue;
                }
                if (b != a && b != me && (judged.nodes.get(b).members >> me & 1) == 1) {
                    nodes.get(me).members &= ~(1 << a);
                } else {
                    nodes.get(me).state = 3;
                    gone.add(me);
                    note(me, 3, nodes.get(me).bad);
                }
            }
            List<Integer> byD = new ArrayList<>(gone);
            for (int i : old) {
                N n = nodes.get(i);
                if (!byD.contains(i) && n.bad > 0 && n.good <= n.bad) {
                    n.state = 3;
                    gone.add(i);
                    note(i, 4, n.bad);
                }
            }
            for (int i : old) {
                if (!gone.contains(i)) {
                    List<Integer> offs = new ArrayList<>();
                    offs.add(0);
                    for (int s : senders) {
                        if (s != i && ahead.hears(i, s)) {
                            offs.add(ahead.shift(s, i) - ahead.nodes.get(i).clock);
                        }
                    }
                    if (round % 2 == 0) {
                        nodes.get(i).clock += mid(offs);
                    } else {
                        nodes.get(i).rate = keep(nodes.get(i).rate + mid(offs) / 4, 9);
                    }
                }
            }
            for (N n : nodes) {
                if (n.state != 0) {
                    n.clock = keep(n.clock + n.drift + n.rate, 999);
                }
            }
            if (round < 9999) {
                round++;
            }
            return gone.size();
        }
    }

    static int mid(List<Integer> some) {
        List<Integer> s = new ArrayList<>(some);
        Collections.sort(s);
        int cut = s.size() < 3 ? 0 : s.size() < 8 ? 1 : 2;
        s = s.subList(cut, s.size() - cut);
        return s.isEmpty() ? 0 : (s.get(0) + s.get(s.size() - 1)) / 2;
    }

    /** Reads sign by sign, without a list of words made ahead. */
    static final class Parser {
        final int[] t;
        int p;

        Parser(int[] t) {
            this.t = t;
            skip();
        }

        void skip() {
            while (p < t.length && t[p] == ' ') {
                p++;
            }
        }

        boolean ended() {
            return p == t.length;
        }

        String peek() {
            int q = p;
            while (q < t.length && t[q] >= 'a' && t[q] <= 'z') {
                q++;
            }
            if (q == p && q < t.length) {
                q++;
            }
            StringBuilder b = new StringBuilder();
            for (int i = p; i < q; i++) {
                b.append((char) t[i]);
            }
            return b.toString();
        }

        boolean eat(String word) {
            if (!peek().equals(word)) {
                return false;
            }
            p += word.length();
            skip();
            return true;
        }

        int number(int least, int most) throws Wrong {
            int q = p;
            while (q < t.length && t[q] >= '0' && t[q] <= '9') {
                q++;
            }
            if (q == p || q - p > 3) {
                throw new Wrong(p);
            }
            int n = 0;
            for (int i = p; i < q; i++) {
                n = n * 10 + t[i] - '0';
            }
            if (n < least || n > most) {
                throw new Wrong(p);
            }
            p = q;
            skip();
            return n;
        }

        void cluster(World w) throws Wrong {
            int lines = 0;
            if (ended()) {
                return;
            }
            do {
                if (++lines > 14) {
                    throw new Wrong(p);
                }
                if (w.nodes.size() < 8 && eat("node")) {
                    node(w);
                } else if (eat("window")) {
                    w.window = number(1, 999);
                } else if (eat("precision")) {
                    w.precision = number(1, 999);
                } else if (eat("round")) {
                    w.round = number(0, 999);
                } else {
                    throw new Wrong(p);
                }
            } while (eat(";"));
            if (!ended()) {
                throw new Wrong(p);
            }
        }

        void node(World w) throws Wrong {
            N n = new N();
            n.wait = 2 + w.nodes.size();
            w.nodes.add(n);
            if (eat("ahead")) {
                n.clock = number(0, 999);
            } else if (eat("behind")) {
                n.clock = -number(0, 999);
            }
            if (eat("fast")) {
                n.drift = number(0, 9);
            } else if (eat("slow")) {
                n.drift = -number(0, 9);
            }
            if (eat("flaky")) {
                n.flaky = number(0, 100);
            }
            if (eat("late")) {
                n.fault = 1;
                n.by = number(0, 99);
            } else if (eat("silent")) {
                n.fault = 2;
            } else if (eat("torn")) {
                n.fault = 3;
                n.by = number(0, 99);
            }
            if (eat("off")) {
                n.state = 0;
            } else if (eat("active")) {
                n.state = 2;
                n.members = 1 << w.nodes.size() - 1;
            }
        }

        List<Line> law() throws Wrong {
            List<Line> lines = new ArrayList<>();
            if (ended()) {
                return lines;
            }
            do {
                String kind = peek();
                if (lines.size() == 12 || !Arrays.asList("late", "omit", "hold").contains(kind)) {
                    throw new Wrong(p);
                }
                eat(kind);
                Line l = new Line();
                l.kind = kind;
                l.n = number(0, 99);
                if (eat("if")) {
                    l.test = any(0);
                }
                lines.add(l);
            } while (eat(";"));
            if (!ended()) {
                throw new Wrong(p);
            }
            return lines;
        }

        Test any(int deep) throws Wrong {
            Test left = all(deep);
            while (eat("or")) {
                Test l = left;
                Test r = all(deep);
                left = (w, i) -> l.of(w, i) || r.of(w, i);
            }
            return left;
        }

        Test all(int deep) throws Wrong {
            Test left = atom(deep);
            while (eat("and")) {
                Test l = left;
                Test r = atom(deep);
                left = (w, i) -> l.of(w, i) && r.of(w, i);
            }
            return left;
        }

        Test atom(int deep) throws Wrong {
            String next = peek();
            if ((next.equals("not") || next.equals("(")) && deep == 6) {
                throw new Wrong(p);
            }
            if (eat("not")) {
                Test t = atom(deep + 1);
                return (w, i) -> !t.of(w, i);
            }
            if (eat("(")) {
                Test t = any(deep + 1);
                if (!eat(")")) {
                    throw new Wrong(p);
                }
                return t;
            }
            if (eat("even")) {
                return (w, i) -> w.round % 2 == 0;
            }
            if (eat("alone")) {
                return (w, i) -> w.actives().stream().allMatch(j -> j == i);
            }
            if (eat("flaky")) {
                return (w, i) -> w.nodes.get(i).flaky > 0;
            }
            Sum l = sum();
            if (eat("<")) {
                Sum r = sum();
                return (w, i) -> l.of(w, i) < r.of(w, i);
            }
            if (eat(">")) {
                Sum r = sum();
                return (w, i) -> l.of(w, i) > r.of(w, i);
            }
            throw new Wrong(p);
        }

        Sum sum() throws Wrong {
            Sum left = part();
            while (eat("+")) {
                Sum l = left;
                Sum r = part();
                left = (w, i) -> l.of(w, i) + r.of(w, i);
            }
            return left;
        }

        Sum part() throws Wrong {
            if (eat("node")) {
                return (w, i) -> i;
            }
            if (eat("fast")) {
                return (w, i) -> speed(w, i) > 0 ? speed(w, i) : 0;
            }
            if (eat("slow")) {
                return (w, i) -> speed(w, i) < 0 ? -speed(w, i) : 0;
            }
            if (eat("members")) {
                return (w, i) -> Integer.bitCount(w.nodes.get(i).members);
            }
            if (eat("good")) {
                return (w, i) -> w.nodes.get(i).good;
            }
            if (eat("bad")) {
                return (w, i) -> w.nodes.get(i).bad;
            }
            if (eat("wait")) {
                return (w, i) -> w.nodes.get(i).wait;
            }
            int n = number(0, 999);
            return (w, i) -> n;
        }

        static int speed(World w, int i) {
            return w.nodes.get(i).drift + w.nodes.get(i).rate;
        }
    }

    List<Integer> tape = new ArrayList<>();
    int fault = -1;
    World now = new World();
    World image;
    Deque<World> past = new ArrayDeque<>();

    public int feed(int a, int b, int c, int d, int e) {
        if (tape.size() > 380) {
            return -1;
        }
        for (int n : new int[] {a, b, c, d, e}) {
            tape.add(n >>> 24);
            tape.add(n >> 16 & 255);
            tape.add(n >> 8 & 255);
            tape.add(n & 255);
        }
        return tape.size();
    }

    public boolean end(int n) {
        if (n < 0 || n > tape.size()) {
            return false;
        }
        tape = new ArrayList<>(tape.subList(0, n));
        return true;
    }

    int[] use() {
        int[] t = tape.stream().mapToInt(x -> x).toArray();
        tape = new ArrayList<>();
        return t;
    }

    public int cluster() {
        World w = now.copy();
        fault = -1;
        try {
            new Parser(use()).cluster(w);
        } catch (Wrong e) {
            fault = e.at;
            throw new IllegalArgumentException();
        }
        if (now.texts == 12) {
            throw new UnsupportedOperationException();
        }
        now = w;
        past.clear();
        return ++now.texts;
    }

    public int law() {
        fault = -1;
        try {
            now.law = new Parser(use()).law();
        } catch (Wrong e) {
            fault = e.at;
            throw new IllegalArgumentException();
        }
        past.clear();
        return now.law.size();
    }

    public int fault() {
        return fault;
    }

    void need(int node) {
        if (node < 0 || node >= now.nodes.size()) {
            throw new IndexOutOfBoundsException();
        }
    }

    static void ask(boolean is) {
        if (!is) {
            throw new IllegalArgumentException();
        }
    }

    boolean friends(int i, int j) {
        return i != j && now.active(i) && now.active(j) && now.hears(i, j) && now.hears(j, i);
    }

    public int node(int node, int what) {
        need(node);
        N n = now.nodes.get(node);
        switch (what) {
            case 0: return n.clock;
            case 1: return n.drift;
            case 2: return n.rate;
            case 3: return n.state;
            case 4: return n.wait;
            case 5: return n.members;
            case 6: return n.good;
            case 7: return n.bad;
            case 8: return n.flaky;
            case 9: return n.fault;
            case 10: return n.by;
            case 11: return now.heldUp(node);
            case 12: return now.omits(node);
            case 13: return now.lawSum("hold", node);
            case 14: return now.passes(node) ? 1 : 0;
            case 15: return clique(node);
            case 16: return middle(node);
            case 17: return known(node);
            default: throw new NoSuchElementException();
        }
    }

    int clique(int node) {
        if (!now.active(node)) {
            return 0;
        }
        Deque<Integer> todo = new ArrayDeque<>(List.of(node));
        int bits = 1 << node;
        while (!todo.isEmpty()) {
            int i = todo.pop();
            for (int j : now.actives()) {
                if (friends(i, j) && (bits >> j & 1) == 0) {
                    bits |= 1 << j;
                    todo.push(j);
                }
            }
        }
        return bits;
    }

    int middle(int node) {
        if (!now.active(node)) {
            return 0;
        }
        List<Integer> offs = new ArrayList<>(List.of(0));
        for (int j = 0; j < now.nodes.size(); j++) {
            if (j != node && now.passes(j) && now.hears(node, j)) {
                offs.add(now.shift(j, node) - now.nodes.get(node).clock);
            }
        }
        return mid(offs);
    }

    int known(int node) {
        int bits = 0;
        for (int j = 0; j < now.nodes.size(); j++) {
            bits |= (now.nodes.get(j).members >> node & 1) << j;
        }
        return bits;
    }

    public int shift(int node, int other) {
        need(node);
        need(other);
        ask(node != other);
        return now.shift(node, other);
    }

    public boolean hears(int node, int other) {
        need(node);
        need(other);
        ask(node != other);
        return now.hears(node, other);
    }

    void act() {
        past.addLast(now.copy());
        if (past.size() > 12) {
            past.removeFirst();
        }
    }

    public int rounds(int n) {
        ask(n >= 1 && n <= 60);
        act();
        int frozen = 0;
        while (n-- > 0) {
            frozen += now.round(true);
        }
        return frozen;
    }

    public int add(int drift) {
        ask(drift >= -9 && drift <= 9);
        if (now.nodes.size() == 8) {
            throw new IllegalStateException();
        }
        act();
        N n = new N();
        n.drift = drift;
        n.wait = 2 + now.nodes.size();
        now.nodes.add(n);
        return now.nodes.size() - 1;
    }

    public int power(int node, boolean is) {
        need(node);
        N n = now.nodes.get(node);
        int was = n.state;
        if (is && (was == 1 || was == 2) || !is && was == 0) {
            throw new IllegalStateException();
        }
        act();
        if (is) {
            int hold = now.lawSum("hold", node);
            n.state = 1;
            n.wait = Math.min(99, 2 + node + hold);
            n.good = n.bad = 0;
        } else {
            n.state = 0;
        }
        n.members = 0;
        return was;
    }

    public int spoil(int node, int kind, int n) {
        need(node);
        ask(kind >= 0 && kind <= 3);
        ask(kind == 0 || kind == 2 || n >= 0 && n <= 99);
        act();
        int was = now.nodes.get(node).fault;
        now.nodes.get(node).fault = kind;
        now.nodes.get(node).by = kind % 2 == 0 ? 0 : n;
        return was;
    }

    public int set(int node, int n) {
        need(node);
        ask(n >= -999 && n <= 999);
        act();
        int was = now.nodes.get(node).clock;
        now.nodes.get(node).clock = n;
        return was;
    }

    public int tune(boolean precision, int n) {
        ask(n >= 1 && n <= 999);
        act();
        int was = precision ? now.precision : now.window;
        if (precision) {
            now.precision = n;
        } else {
            now.window = n;
        }
        return was;
    }

    public int mid() {
        int[] t = use();
        ask(t.length <= 20);
        List<Integer> some = new ArrayList<>();
        for (int b : t) {
            some.add(b - 128);
        }
        return mid(some);
    }

    public int spread() {
        return now.spread();
    }

    public boolean agreed() {
        return now.actives().stream().map(i -> now.nodes.get(i).members).distinct().count() <= 1;
    }

    public int cliques() {
        return (int) now.actives().stream().map(this::clique).distinct().count();
    }

    static World in(World w, int n) {
        World c = w.copy();
        while (n-- > 0) {
            c.round(false);
        }
        return c;
    }

    public int settles(int s) {
        ask(s >= 0 && s <= 999);
        World w = now.copy();
        for (int n = 0; n <= 60; n++, w.round(false)) {
            if (w.actives().size() > 1 && w.spread() <= s) {
                return n;
            }
        }
        return -1;
    }

    public int widest(int n) {
        ask(n >= 0 && n <= 60);
        World w = now.copy();
        int most = w.spread();
        while (n-- > 0) {
            w.round(false);
            most = Math.max(most, w.spread());
        }
        return most;
    }

    public int leads(boolean which) {
        World w = now.copy();
        for (int n = 0; n <= 60; n++, w.round(false)) {
            if (!w.actives().isEmpty()) {
                return which ? w.actives().get(0) : n;
            }
        }
        return -1;
    }

    public int narrow() {
        World w = now.copy();
        for (w.window = 1; w.window <= 999; w.window++) {
            if (w.actives().stream().allMatch(i -> w.nodes.get(i).fault == 2 || w.passes(i))) {
                return w.window;
            }
        }
        return -1;
    }

    public int tight() {
        World w = now.copy();
        List<Integer> a = w.actives();
        for (w.precision = 1; w.precision <= 999; w.precision++) {
            if (a.stream().allMatch(i -> a.stream().allMatch(j -> i.equals(j) || w.hears(i, j)))) {
                return w.precision;
            }
        }
        return -1;
    }

    public int spare() {
        List<Integer> a = now.actives();
        for (int many = 0; many <= 8; many++) {
            for (int set = 0; set < 256; set++) {
                int out = set;
                if (Integer.bitCount(set) != many || set != 0 && !a.containsAll(bits(set))) {
                    continue;
                }
                List<Integer> left = new ArrayList<>(a);
                left.removeIf(i -> (out >> i & 1) == 1);
                if (left.stream().allMatch(i -> left.stream().allMatch(j -> i.equals(j) || friends(i, j)))) {
                    return set;
                }
            }
        }
        throw new AssertionError();
    }

    static List<Integer> bits(int set) {
        List<Integer> b = new ArrayList<>();
        for (int i = 0; i < 32; i++) {
            if ((set >> i & 1) == 1) {
                b.add(i);
            }
        }
        return b;
    }

    int bestLength;
    List<Integer> bestOrder;

    void orders(List<Integer> so, List<Integer> left, int length) {
        if (length >= bestLength) {
            return;
        }
        if (left.isEmpty()) {
            bestLength = length;
            bestOrder = new ArrayList<>(so);
            return;
        }
        for (int i : new ArrayList<>(left)) {
            int step = so.isEmpty() ? 0 : Math.abs(now.nodes.get(i).clock - now.nodes.get(so.get(so.size() - 1)).clock);
            so.add(i);
            left.remove((Integer) i);
            orders(so, left, length + step);
            so.remove(so.size() - 1);
            left.add(i);
            Collections.sort(left);
        }
    }

    public int order(int k) {
        bestLength = Integer.MAX_VALUE;
        orders(new ArrayList<>(), now.actives(), 0);
        if (k == -1) {
            return bestLength;
        }
        return k >= 0 && k < bestOrder.size() ? bestOrder.get(k) : -1;
    }

    List<int[]> courses(int[] t) {
        ask(t.length <= 40 && t.length % 2 == 0);
        for (int i = 0; i < t.length; i += 2) {
            ask(t[i] <= 99);
        }
        List<int[]> fit = new ArrayList<>();
        for (int from = -40; from <= 40; from++) {
            for (int by = -9; by <= 9; by++) {
                int wrong = 0;
                for (int i = 0; i < t.length; i += 2) {
                    if (from + by * t[i] != t[i + 1] - 128) {
                        wrong++;
                    }
                }
                if (wrong <= 1) {
                    fit.add(new int[] {wrong, 19 * (from + 40) + by + 9, from, by});
                }
            }
        }
        return fit;
    }

    static int first(List<int[]> fit) {
        for (int wrong = 0; wrong < 2; wrong++) {
            for (int[] f : fit) {
                if (f[0] == wrong) {
                    return f[1];
                }
            }
        }
        return -1;
    }

    public int read(boolean first) {
        List<int[]> fit = courses(use());
        return first ? first(fit) : fit.size();
    }

    public int when() {
        List<int[]> fit = courses(use());
        int best = -1;
        int least = Integer.MAX_VALUE;
        for (int r = 0; r < 10 && fit.size() > 1; r++) {
            Map<Integer, Integer> parts = new HashMap<>();
            for (int[] f : fit) {
                parts.merge(f[2] + r * f[3], 1, Integer::sum);
            }
            int greatest = Collections.max(parts.values());
            if (greatest < least) {
                least = greatest;
                best = r;
            }
        }
        return best;
    }

    static boolean heard(int who, int sender, int receiver) {
        if (who == 0) {
            return true;
        }
        return who < 9 ? sender != who - 1 : receiver != who - 9;
    }

    List<int[]> culprits(int[] t) {
        ask(t.length <= 60 && t.length % 3 == 0);
        for (int i = 0; i < t.length; i += 3) {
            ask(t[i] < 8 && t[i + 1] < 8 && t[i] != t[i + 1] && t[i + 2] < 2);
        }
        List<int[]> fit = new ArrayList<>();
        for (int who = 0; who <= 16; who++) {
            int wrong = 0;
            for (int i = 0; i < t.length; i += 3) {
                if (heard(who, t[i], t[i + 1]) != (t[i + 2] == 1)) {
                    wrong++;
                }
            }
            if (wrong <= 1) {
                fit.add(new int[] {wrong, who});
            }
        }
        return fit;
    }

    public int blame() {
        return culprits(use()).size();
    }

    public int guilty() {
        return first(culprits(use()));
    }

    public int probe() {
        List<int[]> fit = culprits(use());
        int best = -1;
        int least = Integer.MAX_VALUE;
        for (int s = 0; s < 8 && fit.size() > 1; s++) {
            for (int r = 0; r < 8; r++) {
                int yes = 0;
                for (int[] f : fit) {
                    yes += heard(f[1], s, r) ? 1 : 0;
                }
                int greater = Math.max(yes, fit.size() - yes);
                if (s != r && greater < least) {
                    least = greater;
                    best = 8 * s + r;
                }
            }
        }
        return best;
    }

    int bestWorth;
    int[] bestWith;

    /** Ways in their order: of like ones the first one found stays. */
    void ways(int node, int[] with, int worth) {
        if (node == with.length) {
            if (worth > bestWorth) {
                bestWorth = worth;
                bestWith = with.clone();
            }
            return;
        }
        if (with[node] != -1) {
            ways(node + 1, with, worth);
            return;
        }
        ways(node + 1, with, worth);
        for (int j = node + 1; j < with.length; j++) {
            int apart = Math.abs(now.nodes.get(node).clock - now.nodes.get(j).clock);
            if (with[j] == -1 && apart < 100 && friends(node, j)) {
                with[node] = j;
                with[j] = node;
                ways(node + 1, with, worth + 100 - apart);
                with[node] = -1;
                with[j] = -1;
            }
        }
    }

    public int pairs(int node) {
        if (node != -1) {
            need(node);
        }
        bestWorth = -1;
        int[] with = new int[now.nodes.size()];
        Arrays.fill(with, -1);
        ways(0, with, 0);
        return node == -1 ? bestWorth : bestWith[node];
    }

    public int share(int node, int n) {
        need(node);
        ask(n >= 0 && n <= 99);
        int[] has = new int[now.nodes.size()];
        while (n-- > 0) {
            int to = 0;
            for (int i = 1; i < has.length; i++) {
                if ((100 - now.nodes.get(i).flaky) / (has[i] + 1) > (100 - now.nodes.get(to).flaky) / (has[to] + 1)) {
                    to = i;
                }
            }
            has[to]++;
        }
        return has[node];
    }

    public int rests(int node) {
        need(node);
        int g = now.nodes.get(node).good;
        int b = now.nodes.get(node).bad;
        int[][] guardian = {{g, -g}, {-b - 1, 2}};
        int[][] babbler = {{-1, 0}, {2, 1}};
        int bits = 0;
        for (int i = 0; i < 4; i++) {
            boolean more = guardian[1 - i / 2][i % 2] > guardian[i / 2][i % 2]
                || babbler[i / 2][1 - i % 2] > babbler[i / 2][i % 2];
            bits |= more ? 0 : 1 << i;
        }
        return bits;
    }

    public int odds(int node, int n, int k) {
        need(node);
        ask(n >= 0 && n <= 5 && k >= 0 && k <= 5);
        BigInteger ways = BigInteger.ZERO;
        for (int outcome = 0; outcome < 1 << n; outcome++) {
            BigInteger way = BigInteger.ONE;
            for (int i = 0; i < n; i++) {
                int omits = now.omits(node);
                way = way.multiply(BigInteger.valueOf((outcome >> i & 1) == 1 ? omits : 100 - omits));
            }
            if (Integer.bitCount(outcome) >= k) {
                ways = ways.add(way);
            }
        }
        return ways.multiply(BigInteger.valueOf(10000)).divide(BigInteger.valueOf(100).pow(n)).intValue();
    }

    public int most(int what) {
        if (what < 0 || what > 2) {
            throw new NoSuchElementException();
        }
        int best = -1;
        for (int i = now.nodes.size() - 1; i >= 0; i--) {
            if (best == -1 || rank(i, what) >= rank(best, what)) {
                best = i;
            }
        }
        return best;
    }

    int rank(int i, int what) {
        N n = now.nodes.get(i);
        return what == 0 ? n.drift + n.rate : what == 1 ? -(n.drift + n.rate) : Math.abs(n.clock);
    }

    public int byState(int state) {
        if (state < 0 || state > 3) {
            throw new NoSuchElementException();
        }
        int bits = 0;
        for (int i = 0; i < now.nodes.size(); i++) {
            bits |= now.nodes.get(i).state == state ? 1 << i : 0;
        }
        return bits;
    }

    public int twins() {
        int twins = 0;
        for (N a : now.nodes) {
            for (N b : now.nodes) {
                twins += a != b && a.drift == b.drift && a.state == b.state ? 1 : 0;
            }
        }
        return twins / 2;
    }

    public int ahead(int node, int n, boolean state) {
        need(node);
        ask(n >= 0 && n <= 60);
        N then = in(now, n).nodes.get(node);
        return state ? then.state : then.clock;
    }

    World tried(int n, int seed) {
        World w = now.copy();
        w.seed = seed;
        while (n-- > 0) {
            w.round(true);
        }
        return w;
    }

    public int trial(int n, boolean spread) {
        ask(n >= 0 && n <= 60);
        World w = tried(n, now.seed);
        int bits = 0;
        for (int i : w.actives()) {
            bits |= 1 << i;
        }
        return spread ? w.spread() : bits;
    }

    public int span(int n, boolean most) {
        ask(n >= 0 && n <= 60);
        List<Integer> all = new ArrayList<>();
        for (int seed = 1; seed <= 6; seed++) {
            all.add(tried(n, seed).actives().size());
        }
        return most ? Collections.max(all) : Collections.min(all);
    }

    public int led(int node, boolean round) {
        need(node);
        int rows = 0;
        int latest = -1;
        for (int[] row : now.log) {
            if (row[1] == node) {
                rows++;
                latest = row[0];
            }
        }
        return round ? latest : rows;
    }

    public int log(int ago, int what) {
        if (what < 0 || what > 3) {
            throw new NoSuchElementException();
        }
        return ago < 0 || ago >= now.log.size() ? -1 : now.log.get(now.log.size() - 1 - ago)[what];
    }

    public int seed(int n) {
        int was = now.seed;
        now.seed = n;
        return was;
    }

    public boolean undo() {
        if (past.isEmpty()) {
            return false;
        }
        now = past.removeLast();
        return true;
    }

    public void image() {
        image = now.copy();
    }

    public boolean back() {
        if (image == null) {
            return false;
        }
        now = image.copy();
        past.clear();
        return true;
    }

    public int count(int what) {
        switch (what) {
            case 0: return now.nodes.size();
            case 1: return now.texts;
            case 2: return now.law == null ? -1 : now.law.size();
            case 3: return now.window;
            case 4: return now.precision;
            case 5: return now.round;
            case 6: return now.actives().size();
            case 7: return now.log.size();
            case 8: return past.size();
            default: return -1;
        }
    }
}

import java.lang.reflect.InvocationTargetException;
import java.lang.reflect.Method;
import java.util.ArrayList;
import java.util.Arrays;
import java.util.Comparator;
import java.util.List;

/** Runs of calls by chance (always the same chance), each answer held against the Model's. */
public final class RandomRuns {
    static long chance;
    static List<Method> face = new ArrayList<>();

    static int upTo(int n) {
        chance = chance * 6364136223846793005L + 1442695040888963407L;
        return (int) ((chance >>> 33) % n);
    }

    static boolean oneIn(int n) {
        return upTo(n) == 0;
    }

    static String pick(String... of) {
        return of[upTo(of.length)];
    }

    static String blanks() {
        return oneIn(6) ? pick(" ", "  ") : "";
    }

    static String number(int most) {
        int n = oneIn(40) ? upTo(1200) : upTo(most + 1);
        return (oneIn(30) ? "0" : "") + n;
    }

    static String nodeLine(int far) {
        String s = "node";
        if (!oneIn(4)) {
            s += pick(" ahead ", " behind ") + number(far);
        }
        if (oneIn(2)) {
            s += pick(" fast ", " slow ") + number(oneIn(2) ? 9 : 3);
        }
        if (oneIn(3)) {
            s += " flaky " + number(100);
        }
        if (oneIn(3)) {
            s += pick(" late " + number(40), " silent", " torn " + number(60));
        }
        if (!oneIn(3)) {
            s += pick(" active", " active", " active", " off");
        }
        return s;
    }

    static String clusterText() {
        int far = pick("30", "60", "200", "999").length() == 2 ? 40 : 999;
        int lines = oneIn(12) ? 13 + upTo(4) : oneIn(20) ? 0 : 1 + upTo(7);
        StringBuilder s = new StringBuilder(blanks());
        for (int i = 0; i < lines; i++) {
            s.append(i == 0 ? "" : ";").append(blanks());
            if (oneIn(6) || lines > 8 && !oneIn(3)) {
                s.append(pick("window " + number(999), "precision " + number(200), "round " + number(999)));
            } else {
                s.append(nodeLine(far));
            }
            s.append(blanks());
        }
        return s.toString();
    }

    static String sum() {
        StringBuilder s = new StringBuilder();
        int parts = 1 + (oneIn(3) ? upTo(3) : 0);
        for (int i = 0; i < parts; i++) {
            s.append(i == 0 ? "" : blanks() + "+" + blanks());
            s.append(pick(number(9), number(4), "node", "fast", "slow", "members", "good", "bad", "wait"));
        }
        return s.toString();
    }

    static String atom(int deep) {
        int way = upTo(deep > 7 ? 4 : 8);
        if (way < 2) {
            return pick("even", "alone", "flaky");
        }
        if (way < 5) {
            return sum() + blanks() + pick("<", ">") + blanks() + sum();
        }
        return way < 6 ? "not " + atom(deep + 1) : "(" + blanks() + any(deep + 1) + ")";
    }

    static String any(int deep) {
        String s = atom(deep);
        for (int i = 0; i < 4 && oneIn(3); i++) {
            s += pick(" and ", " or ") + atom(deep);
        }
        return s;
    }

    static String lawText() {
        int lines = oneIn(15) ? 12 + upTo(2) : oneIn(20) ? 0 : 1 + upTo(5);
        StringBuilder s = new StringBuilder(blanks());
        for (int i = 0; i < lines; i++) {
            s.append(i == 0 ? "" : ";").append(blanks()).append(pick("late ", "omit ", "hold ")).append(number(oneIn(3) ? 99 : 12));
            if (lines < 8 && !oneIn(4)) {
                s.append(" if ").append(any(0));
            }
            s.append(blanks());
        }
        return s.toString();
    }

    static String spoiled(String s) {
        if (!oneIn(5) || s.isEmpty()) {
            return s;
        }
        int at = upTo(s.length());
        String more = pick("", " ", ";", "(", ")", "not ", "9", "+", "<", "x", " and ", "#", "node", "\u00e9", "A");
        return oneIn(3) ? s.substring(0, at) : s.substring(0, at) + more + s.substring(Math.min(s.length(), at + upTo(2)));
    }

    static int[] bytesOf(String s) {
        int[] t = new int[s.length()];
        for (int i = 0; i < t.length; i++) {
            t[i] = s.charAt(i);
        }
        return t;
    }

    static int[] courseRows() {
        int[] t = new int[2 * upTo(6) + (oneIn(30) ? 1 : 0) + (oneIn(40) ? 40 : 0)];
        int from = upTo(81) - 40;
        int by = upTo(19) - 9;
        for (int i = 0; i + 1 < t.length; i += 2) {
            t[i] = oneIn(40) ? upTo(256) : upTo(12);
            t[i + 1] = (oneIn(5) ? upTo(256) : 128 + from + by * t[i]) & 255;
        }
        return t;
    }

    static int[] blameRows() {
        int[] t = new int[3 * upTo(8) + (oneIn(30) ? 1 : 0) + (oneIn(40) ? 60 : 0)];
        int who = upTo(17);
        for (int i = 0; i + 2 < t.length; i += 3) {
            t[i] = oneIn(60) ? upTo(12) : upTo(8);
            t[i + 1] = oneIn(60) ? upTo(12) : (t[i] + 1 + upTo(7)) & 7;
            t[i + 2] = oneIn(60) ? 2 : oneIn(6) ? upTo(2) : Model.heard(who, t[i], t[i + 1]) ? 1 : 0;
        }
        return t;
    }

    static int argument(String method, int place, Model m) {
        if (oneIn(60)) {
            return Integer.parseInt(pick("-1", "-2", "1000", "99999", "-2147483648", "2147483647", "-1000"));
        }
        boolean isNode = place == 0 && List.of("node", "shift", "hears", "power", "spoil", "set", "share", "rests",
            "odds", "ahead", "led").contains(method) || place == 1 && List.of("shift", "hears").contains(method);
        if (isNode) {
            return oneIn(20) ? upTo(10) - 1 : upTo(Math.max(1, m.now.nodes.size()));
        }
        switch (method) {
            case "node": return upTo(19);
            case "rounds": return oneIn(4) ? upTo(62) : 1 + upTo(3);
            case "add": return upTo(21) - 10;
            case "spoil": return place == 1 ? upTo(oneIn(9) ? 6 : 4) : upTo(oneIn(9) ? 120 : 40);
            case "set": return oneIn(4) ? upTo(2100) - 1050 : upTo(120) - 60;
            case "tune": return oneIn(4) ? upTo(1010) : 20 + upTo(150);
            case "settles": return oneIn(3) ? upTo(1003) : upTo(40);
            case "widest": case "trial": case "span": return upTo(63);
            case "ahead": return upTo(63);
            case "order": case "pairs": return upTo(10) - 1;
            case "share": return upTo(103);
            case "odds": return upTo(7);
            case "most": return upTo(4);
            case "byState": return upTo(5);
            case "log": return place == 0 ? upTo(oneIn(3) ? 64 : 8) : upTo(5);
            case "end": return upTo(30) - 2;
            case "count": return upTo(11) - 1;
            default: return upTo(2) == 0 ? upTo(50) : (int) chance;
        }
    }

    static Object call(Object o, Method like, Object[] with) throws Exception {
        try {
            Method m = o.getClass().getMethod(like.getName(), like.getParameterTypes());
            m.setAccessible(true);
            return String.valueOf(m.invoke(o, with));
        } catch (NoSuchMethodException e) {
            throw e;
        } catch (InvocationTargetException e) {
            // The class itself, not one above it: what the machine throws has classes below these.
            return "throws." + e.getCause().getClass().getSimpleName();
        }
    }

    static int wrong;
    static int calls;
    static java.util.Map<String, Integer> seen = new java.util.TreeMap<>();

    static boolean step(int run, SlotCluster x, Model m, Method method, Object[] with) throws Exception {
        Object want = call(m, method, with);
        Object got = call(x, method, with);
        calls++;
        seen.merge(method.getName() + (want.toString().startsWith("throws") ? " " + want : ""), 1, Integer::sum);
        if (!want.equals(got)) {
            wrong++;
            System.out.println("run " + run + ": " + method.getName() + Arrays.toString(with) + " answered " + got
                + ", due is " + want);
        }
        return want.equals(got);
    }

    static Method named(String name) {
        for (Method m : face) {
            if (m.getName().equals(name)) {
                return m;
            }
        }
        throw new IllegalArgumentException(name);
    }

    static boolean tell(int run, SlotCluster x, Model m, int[] t, String use) throws Exception {
        boolean ok = step(run, x, m, named("end"), new Object[] {0});
        for (int at = 0; at < Math.min(400, t.length); at += 20) {
            Object[] five = new Object[5];
            for (int i = 0; i < 5; i++) {
                int n = 0;
                for (int j = 0; j < 4; j++) {
                    int p = at + 4 * i + j;
                    n = n << 8 | (p < t.length ? t[p] : 0);
                }
                five[i] = n;
            }
            ok &= step(run, x, m, named("feed"), five);
        }
        ok &= step(run, x, m, named("end"), new Object[] {Math.min(400, t.length)});
        Method method = named(use);
        Object[] with = use.equals("read") ? new Object[] {oneIn(2)} : new Object[0];
        ok &= step(run, x, m, method, with);
        return ok & step(run, x, m, named("fault"), new Object[0]);
    }

    static boolean same(int run, SlotCluster x, Model m) throws Exception {
        boolean ok = true;
        for (int i = 0; i < m.now.nodes.size(); i++) {
            for (int what = 0; what < 18; what++) {
                ok &= step(run, x, m, named("node"), new Object[] {i, what});
            }
        }
        for (int what = 0; what < 9; what++) {
            ok &= step(run, x, m, named("count"), new Object[] {what});
        }
        return ok;
    }

    static boolean one(int run, int length) throws Exception {
        SlotCluster x = new SlotCluster();
        Model m = new Model();
        boolean ok = true;
        for (int k = 0; k < length && ok; k++) {
            int way = k == 0 ? 0 : upTo(30);
            if (way == 0) {
                ok = tell(run, x, m, bytesOf(spoiled(clusterText())), "cluster");
            } else if (way == 1) {
                ok = tell(run, x, m, bytesOf(spoiled(lawText())), "law");
            } else if (way == 2) {
                ok = tell(run, x, m, courseRows(), pick("read", "read", "when"));
            } else if (way == 3) {
                ok = tell(run, x, m, blameRows(), pick("blame", "guilty", "probe"));
            } else {
                Method method = face.get(upTo(face.size()));
                method = way < 8 ? named(pick("rounds", "rounds", "power", "set", "spoil", "undo")) : method;
                if ((method.getName().equals("back") || method.getName().equals("undo")) && !oneIn(3)) {
                    continue;
                }
                Class<?>[] types = method.getParameterTypes();
                Object[] with = new Object[types.length];
                for (int i = 0; i < with.length; i++) {
                    with[i] = types[i] == boolean.class ? (Object) oneIn(2) : (Object) argument(method.getName(), i, m);
                }
                ok = step(run, x, m, method, with);
            }
            if (ok && k % 10 == 9) {
                ok = same(run, x, m);
            }
        }
        return ok && same(run, x, m);
    }

    public static void main(String[] args) throws Exception {
        int runs = args.length > 0 ? Integer.parseInt(args[0]) : 600;
        for (Method m : SlotCluster.class.getDeclaredMethods()) {
            if (java.lang.reflect.Modifier.isPublic(m.getModifiers())) {
                face.add(m);
            }
        }
        face.sort(Comparator.comparing(Method::getName));
        for (int run = 0; run < runs && wrong < 20; run++) {
            chance = run * 7919L + 17;
            one(run, 120);
        }
        if (args.length > 1) {
            System.out.println(seen);
        }
        System.out.println(wrong == 0 ? "all " + calls + " answers of runs by chance are as the model's" : wrong + " answers are not");
        if (wrong != 0) {
            System.exit(1);
        }
    }
}

import java.lang.reflect.InvocationTargetException;
import java.lang.reflect.Method;
import java.util.ArrayList;
import java.util.HashMap;
import java.util.List;
import java.util.Map;
import java.util.regex.Matcher;
import java.util.regex.Pattern;

/**
 * A sentence of the document and a run of calls on a new object that shows it, row by row:
 *
 * <pre>
 *   set 0 999 = 0                 a call and its answer (without "=": it is not looked at)
 *   60 x rounds 60                a call made so often
 *   set 0 1000 ! Argument         it throws just this, and nothing is changed by it
 *   cluster 'node;window 3' = 1   the text is put on the TAPE first
 *   cluster 'nodes' wrong 0       IllegalArgumentException, fault() is 0, nothing else is changed
 *   mid [128 20*125] = -3         these bytes are put on the TAPE first
 *   tape 20                       so many bytes the TAPE has
 *   all 0 = 5 0 0 1 2 0 0 0 0 0 0 node(0, 0), node(0, 1) and so on
 *   each 4 = 2 3                  node(0, 4), node(1, 4) and so on
 *   counts = 1 1 -1               count(0), count(1) and so on
 *   row 0 = 1 0 0 0               log(0, 0), log(0, 1) and so on
 * </pre>
 *
 * In a text {8;node} is node eight times with ; between, {7|not } is it with nothing between.
 */
final class Edges {
    static int edges;
    static int wrong;

    private static final Map<String, String> EXCEPTIONS = Map.of("Index", "IndexOutOfBoundsException",
        "Argument", "IllegalArgumentException", "State", "IllegalStateException", "Element", "NoSuchElementException",
        "Unsupported", "UnsupportedOperationException");
    private static final List<String> USE_THE_TAPE =
        List.of("cluster", "law", "mid", "read", "when", "blame", "guilty", "probe");
    private static final List<String> READ_TEXTS = List.of("cluster", "law");
    private static final Map<String, Method> FACE = new HashMap<>();
    private static final Pattern PARTS = Pattern.compile("'[^']*'|\\[[^\\]]*\\]|\\S+");
    private static final Pattern TIMES = Pattern.compile("\\{(\\d+)(.)([^}]*)\\}");

    private final SlotCluster x = new SlotCluster();
    private final String sentence;
    /** What the latest refused call left, so that the next one can be held against it. */
    private String asItWas = "";
    private int tapeLength;
    private int calls;

    private Edges(String sentence) {
        this.sentence = sentence;
    }

    static void edge(String sentence, String rows) {
        Edges e = new Edges(sentence);
        edges++;
        for (String row : rows.strip().split("\n")) {
            try {
                e.play(row.strip());
            } catch (ReflectiveOperationException | RuntimeException problem) {
                e.fails(row, "cannot be played: " + problem);
            }
        }
        if (e.calls > 512) {
            e.fails("the run", "has " + e.calls + " calls, and more than 512 are not promised");
        }
    }

    private void fails(String row, String what) {
        wrong++;
        System.out.println("\"" + sentence + "\": " + row.strip() + ": " + what);
    }

    private void play(String row) throws ReflectiveOperationException {
        List<String> parts = new ArrayList<>();
        Matcher m = PARTS.matcher(row);
        while (m.find()) {
            parts.add(m.group());
        }
        int times = 1;
        if (parts.size() > 2 && parts.get(1).equals("x")) {
            times = Integer.parseInt(parts.get(0));
            parts = parts.subList(2, parts.size());
        }
        int at = 1;
        while (at < parts.size() && !List.of("=", "!", "wrong").contains(parts.get(at))) {
            at++;
        }
        String name = parts.get(0);
        List<String> with = new ArrayList<>(parts.subList(1, at));
        List<String> due = parts.subList(Math.min(parts.size(), at + 1), parts.size());
        for (int k = 0; k < times; k++) {
            playOne(row, name, new ArrayList<>(with), at < parts.size() ? parts.get(at) : "", due);
        }
    }

    private void playOne(String row, String name, List<String> with, String sign, List<String> due)
            throws ReflectiveOperationException {
        if (List.of("tape", "all", "each", "counts", "row").contains(name)) {
            String got = told(name, with);
            if (!got.equals(name.equals("tape") ? "true" : String.join(" ", due))) {
                fails(row, "answered " + got);
            }
            return;
        }
        String last = with.isEmpty() ? "" : with.get(with.size() - 1);
        if (last.startsWith("'") || last.startsWith("[")) {
            with.remove(with.size() - 1);
            load(last.startsWith("'") ? bytesOfText(last) : bytesOfRow(last));
        }
        boolean isRefused = sign.equals("!") || sign.equals("wrong");
        boolean withFault = !READ_TEXTS.contains(name);
        if (isRefused && (asItWas.isEmpty() || withFault != asItWas.contains("fault"))) {
            asItWas = snapshot(withFault);
        }
        String got = call(name, with);
        if (USE_THE_TAPE.contains(name)) {
            tapeLength = 0;
        }
        if (isRefused) {
            boolean isWrongText = sign.equals("wrong");
            String want = EXCEPTIONS.get(isWrongText ? "Argument" : due.get(0));
            if (!got.equals("throws " + want)) {
                fails(row, "answered " + got);
            }
            if (isWrongText && !call("fault", List.of()).equals(due.get(0))) {
                fails(row, "fault() is " + call("fault", List.of()));
            }
            String after = snapshot(withFault);
            if (!after.equals(asItWas)) {
                fails(row, "changed " + asItWas + " to " + after);
            }
            asItWas = after;
            return;
        }
        asItWas = "";
        if (got.startsWith("throws") || sign.equals("=") && !got.equals(due.get(0))) {
            fails(row, "answered " + got);
        }
    }

    private String told(String name, List<String> with) throws ReflectiveOperationException {
        int n = with.isEmpty() ? 0 : Integer.parseInt(with.get(0));
        List<String> all = new ArrayList<>();
        switch (name) {
            case "tape":
                return String.valueOf(hasTape(n));
            case "all":
                for (int what = 0; what < 11; what++) {
                    all.add(call("node", List.of("" + n, "" + what)));
                }
                break;
            case "each":
                int nodes = Integer.parseInt(call("count", List.of("0")));
                for (int node = 0; node < nodes; node++) {
                    all.add(call("node", List.of("" + node, "" + n)));
                }
                break;
            case "counts":
                for (int what = 0; what < 9; what++) {
                    all.add(call("count", List.of("" + what)));
                }
                break;
            default:
                for (int what = 0; what < 4; what++) {
                    all.add(call("log", List.of("" + n, "" + what)));
                }
        }
        return String.join(" ", all);
    }

    /** end() of as much as there is changes nothing, of more is refused: so the length shows. */
    private boolean hasTape(int n) throws ReflectiveOperationException {
        return call("end", List.of("" + (n + 1))).equals("false") && call("end", List.of("" + n)).equals("true");
    }

    /** All that is told but what follows from it, the rest of the log, and what was remembered. */
    private String snapshot(boolean withFault) throws ReflectiveOperationException {
        StringBuilder b = new StringBuilder("counts " + told("counts", List.of()));
        int nodes = Integer.parseInt(call("count", List.of("0")));
        for (int i = 0; i < nodes; i++) {
            b.append(", ").append(told("all", List.of("" + i)));
            b.append(" held up ").append(call("node", List.of("" + i, "11")));
        }
        for (int ago = 0; ago < 2; ago++) {
            b.append(", row ").append(told("row", List.of("" + ago)));
        }
        String seed = call("seed", List.of("0"));
        call("seed", List.of(seed));
        b.append(", seed ").append(seed);
        b.append(withFault ? ", fault " + call("fault", List.of()) : "");
        b.append(hasTape(tapeLength) ? "" : ", the tape is not " + tapeLength);
        return b.toString();
    }

    private void load(int[] bytes) throws ReflectiveOperationException {
        call("end", List.of("0"));
        tapeLength = 0;
        for (int at = 0; at < bytes.length; at += 20) {
            List<String> five = new ArrayList<>();
            for (int i = at; i < at + 20; i += 4) {
                int number = 0;
                for (int j = i; j < i + 4; j++) {
                    number = number << 8 | (j < bytes.length ? bytes[j] & 255 : 0);
                }
                five.add("" + number);
            }
            call("feed", five);
        }
        call("end", List.of("" + bytes.length));
    }

    private static int[] bytesOfText(String quoted) {
        String s = quoted.substring(1, quoted.length() - 1);
        Matcher m = TIMES.matcher(s);
        while (m.find()) {
            String between = m.group(2).equals("|") ? "" : m.group(2);
            List<String> all = new ArrayList<>();
            for (int i = Integer.parseInt(m.group(1)); i > 0; i--) {
                all.add(m.group(3));
            }
            s = s.substring(0, m.start()) + String.join(between, all) + s.substring(m.end());
            m = TIMES.matcher(s);
        }
        return s.chars().toArray();
    }

    private static int[] bytesOfRow(String told) {
        List<Integer> all = new ArrayList<>();
        for (String s : told.substring(1, told.length() - 1).strip().split("\\s+")) {
            String[] times = s.split("\\*");
            for (int k = times.length > 1 ? Integer.parseInt(times[0]) : 1; k > 0 && !s.isEmpty(); k--) {
                all.add(Integer.parseInt(times[times.length - 1]));
            }
        }
        return all.stream().mapToInt(i -> i).toArray();
    }

    private String call(String name, List<String> with) throws ReflectiveOperationException {
        if (FACE.isEmpty()) {
            for (Method m : SlotCluster.class.getMethods()) {
                FACE.put(m.getDeclaringClass() == SlotCluster.class ? m.getName() : "", m);
            }
        }
        Method m = FACE.get(name);
        Class<?>[] types = m.getParameterTypes();
        if (types.length != with.size()) {
            throw new IllegalArgumentException("not " + types.length + " arguments");
        }
        Object[] values = new Object[types.length];
        for (int i = 0; i < values.length; i++) {
            String s = with.get(i);
            values[i] = types[i] == boolean.class ? (Object) s.equals("true") : (Object) Integer.parseInt(s);
        }
        calls++;
        try {
            Object got = m.invoke(x, values);
            if (name.equals("feed") && (int) got >= 0) {
                tapeLength = (int) got;
            } else if (name.equals("end") && (boolean) got) {
                tapeLength = (int) values[0];
            }
            return String.valueOf(got);
        } catch (InvocationTargetException e) {
            // The class itself, not one above it: what the machine throws has classes below these.
            return "throws " + e.getCause().getClass().getSimpleName();
        }
    }
}

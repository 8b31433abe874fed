import java.lang.reflect.Method;
import java.util.ArrayList;
import java.util.Arrays;
import java.util.HashMap;
import java.util.List;
import java.util.Map;
import java.util.Set;

/**
 * Runs calls on a new object, a line each: name(numbers) = what is due; # begins a remark.
 * A text in quotes stands for feed() of all its bytes. MIN and MAX are the least and the greatest number;
 * {1 2 3} stands for a line with each of these; 1..24 is due of as many lines, one after the other.
 * A line that only asks, or that answers an ERROR, must leave all that can be seen as it was, but for what the
 * document tells; behind the last line told() must have counted each ERROR that was due, and no other.
 */
final class Script {
    private static final Map<String, Long> ERRORS = Map.of(
        "BEYOND", -1000000001L, "NONE", -1000000002L, "STATE", -1000000003L,
        "FULL", -1000000004L, "KIND", -1000000005L, "PARTED", -1000000006L);
    private static final int KINDS_OF_ERRORS = 6;
    private static final Map<String, Method> METHODS = methods();
    private static final Set<String> ASKING = Set.of("wayIs", "volumeIs", "as", "says", "walk", "best", "fits",
        "over", "boy", "worth", "longer", "leftOut", "body", "count", "told");
    /** An object is used for so many calls; what later ones answer is free. */
    private static final int MOST_CALLS = 512;

    private static int calls = 0;
    private static int wrong = 0;

    private final String title;
    private final BlindMaps x = new BlindMaps();
    private final long[] errors = new long[KINDS_OF_ERRORS + 1];
    private final List<Line> changes = new ArrayList<>();
    private Look before;
    private int made;

    private Script(String title) {
        this.title = title;
    }

    /** A call, and what is due: a number, or an ERROR's name. */
    private record Line(String call, String name, List<String> arguments, String due) {
        boolean isError() {
            return ERRORS.containsKey(due);
        }

        long dueNumber() {
            return isError() ? ERRORS.get(due) : Long.parseLong(due);
        }

        /** The ERRORS that are told to change something are check()'s, and PARTED, which has a TRACE. */
        boolean leavesAll() {
            boolean changing = name.equals("check") || due.equals("PARTED");
            return ASKING.contains(name) || isError() && !changing;
        }
    }

    static void run(String title, String text) {
        Script script = new Script(title);
        for (Line line : linesOf(text)) {
            script.go(line);
        }
        script.compareErrors();
    }

    static void end() {
        System.out.println(calls + " calls, " + wrong + " wrong");
        if (wrong != 0) {
            System.exit(1);
        }
    }

    static void fail(String title, String what) {
        wrong++;
        System.out.println(title + ": " + what);
    }

    private void go(Line line) {
        calls++;
        made += callsOf(line);
        long got = answer(x, line);
        if (got != line.dueNumber()) {
            fail(title, line.call() + " answered " + got + ", due is " + line.due());
        }
        if (line.isError()) {
            errors[(int) (-1000000000L - line.dueNumber())]++;
        }
        if (line.leavesAll()) {
            compareLooks(line);
        } else {
            changes.add(line);
            before = null;
        }
    }

    /** A look changes much, so that it is at objects made anew. */
    private void compareLooks(Line line) {
        if (before == null) {
            before = Look.at(this::changed);
        }
        Look after = Look.at(() -> {
            BlindMaps y = changed();
            answer(y, line);
            return y;
        });
        if (!after.isLike(before)) {
            fail(title, line.call() + " changed " + after.firstUnlike(before));
        }
    }

    /** An object on which only those lines were called that may change something. */
    private BlindMaps changed() {
        BlindMaps y = new BlindMaps();
        for (Line change : changes) {
            answer(y, change);
        }
        return y;
    }

    private void compareErrors() {
        for (int k = 1; k <= KINDS_OF_ERRORS; k++) {
            long got = x.told(k);
            if (got != errors[k]) {
                fail(title, "told(" + k + ") answered " + got + ", due is " + errors[k]);
            }
        }
        if (made + KINDS_OF_ERRORS > MOST_CALLS) {
            fail(title, made + " calls are more than an object is used for");
        }
    }

    private static List<Line> linesOf(String text) {
        List<Line> lines = new ArrayList<>();
        for (String raw : text.split("\n")) {
            String row = raw.replaceFirst("\\s#.*|^#.*", "").trim();
            if (row.isEmpty()) {
                continue;
            }
            int cut = row.lastIndexOf(" = ");
            for (String call : alternatives(row.substring(0, cut).trim())) {
                for (String due : duesOf(row.substring(cut + 3).trim())) {
                    lines.add(lineOf(call, due));
                }
            }
        }
        return lines;
    }

    private static Line lineOf(String call, String due) {
        int open = call.indexOf('(');
        String inside = call.substring(open + 1, call.length() - 1);
        List<String> arguments = new ArrayList<>();
        if (isQuoted(inside)) {
            arguments.add(inside);
        } else if (!inside.isBlank()) {
            for (String argument : inside.split(",")) {
                arguments.add(argument.trim());
            }
        }
        return new Line(call, call.substring(0, open), arguments, due);
    }

    private static List<String> alternatives(String call) {
        int open = call.indexOf('{');
        if (open < 0 || call.contains("\"")) {
            return List.of(call);
        }
        int close = call.indexOf('}');
        List<String> all = new ArrayList<>();
        for (String one : call.substring(open + 1, close).split(" ")) {
            all.addAll(alternatives(call.substring(0, open) + one + call.substring(close + 1)));
        }
        return all;
    }

    private static List<String> duesOf(String due) {
        int cut = due.indexOf("..");
        if (cut < 0) {
            return List.of(due);
        }
        List<String> all = new ArrayList<>();
        for (int i = Integer.parseInt(due.substring(0, cut)); i <= Integer.parseInt(due.substring(cut + 2)); i++) {
            all.add(String.valueOf(i));
        }
        return all;
    }

    private static boolean isQuoted(String argument) {
        return argument.startsWith("\"");
    }

    private static String unquoted(Line line) {
        String quoted = line.arguments().get(0);
        return quoted.substring(1, quoted.length() - 1);
    }

    private static boolean feedsText(Line line) {
        return !line.arguments().isEmpty() && isQuoted(line.arguments().get(0));
    }

    private static int callsOf(Line line) {
        return feedsText(line) ? (unquoted(line).length() + 7) / 8 : 1;
    }

    private static long answer(BlindMaps x, Line line) {
        if (feedsText(line)) {
            return feed(x, unquoted(line));
        }
        Class<?>[] types = methodOf(line.name()).getParameterTypes();
        long[] v = new long[types.length];
        for (int i = 0; i < types.length; i++) {
            v[i] = number(line.arguments().get(i), types[i] == long.class);
        }
        return act(x, line.name(), v);
    }

    private static long number(String argument, boolean isLong) {
        if (argument.equals("MIN")) {
            return isLong ? Long.MIN_VALUE : Integer.MIN_VALUE;
        }
        if (argument.equals("MAX")) {
            return isLong ? Long.MAX_VALUE : Integer.MAX_VALUE;
        }
        return isLong ? Long.parseLong(argument) : Integer.parseInt(argument);
    }

    /** What an act answers; one that throws fails, with an answer that none gives. */
    static long act(BlindMaps x, String name, long... v) {
        Method method = methodOf(name);
        Object[] values = new Object[v.length];
        for (int i = 0; i < v.length; i++) {
            values[i] = method.getParameterTypes()[i] == long.class ? (Object) v[i] : (Object) (int) v[i];
        }
        try {
            return ((Number) method.invoke(x, values)).longValue();
        } catch (ReflectiveOperationException e) {
            fail(name + Arrays.toString(v), "threw " + e.getCause());
            return Long.MIN_VALUE;
        }
    }

    static Method methodOf(String name) {
        Method method = METHODS.get(name);
        if (method == null) {
            throw new IllegalStateException("no method " + name);
        }
        return method;
    }

    private static Map<String, Method> methods() {
        Map<String, Method> byName = new HashMap<>();
        for (Method method : BlindMaps.class.getMethods()) {
            byName.put(method.getName(), method);
        }
        return byName;
    }

    /** Feeds a text by up to eight bytes, and answers what the last feed() did. */
    static long feed(BlindMaps x, String text) {
        long answer = 0;
        for (int from = 0; from < text.length(); from += 8) {
            int n = Math.min(8, text.length() - from);
            long word = 0;
            for (int i = 0; i < n; i++) {
                word |= (text.charAt(from + i) & 255L) << (8 * i);
            }
            answer = x.feed(word, n);
        }
        return answer;
    }
}

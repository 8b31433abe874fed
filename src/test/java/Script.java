import java.lang.reflect.Method;
import java.util.ArrayList;
import java.util.List;
import java.util.Map;

/**
 * Runs calls on a new object, a line each: name(numbers) = what is due; # begins a remark.
 * A text in quotes stands for feed() of all its bytes. Behind the last line told() must have counted
 * each ERROR that was due, and the object must be as if no call that answered an ERROR had been made, but
 * for those calls that change something even then.
 */
final class Script {
    private static final Map<String, Long> ERRORS = Map.of(
        "BEYOND", -1000000001L, "NONE", -1000000002L, "STATE", -1000000003L,
        "FULL", -1000000004L, "KIND", -1000000005L, "PARTED", -1000000006L);

    private static int calls = 0;
    private static int wrong = 0;

    private Script() {
    }

    /** A call, and what is due: a number, or an ERROR's name. */
    private record Line(String call, String name, List<String> arguments, String due) {
        boolean isError() {
            return ERRORS.containsKey(due);
        }

        long dueNumber() {
            return isError() ? ERRORS.get(due) : Long.parseLong(due);
        }

        /** The acts that are told to change something with an ERROR: check(), and THE TRACE of a PARTED voice(). */
        boolean leavesAll() {
            return isError() && !name.equals("check") && !due.equals("PARTED");
        }
    }

    static void run(String title, String text) {
        List<Line> lines = linesOf(text);
        BlindMaps x = new BlindMaps();
        long[] due = new long[7];
        for (Line line : lines) {
            calls++;
            long got = answer(x, line);
            if (got != line.dueNumber()) {
                fail(title, line.call() + " answered " + got + ", due is " + line.due());
            }
            if (line.isError()) {
                due[(int) (-1000000000L - line.dueNumber())]++;
            }
        }
        // told() of an unknown k counts, so these are asked first.
        for (int k = 1; k <= 6; k++) {
            if (x.told(k) != due[k]) {
                fail(title, "told(" + k + ") answered " + x.told(k) + ", due is " + due[k]);
            }
        }
        BlindMaps y = new BlindMaps();
        for (Line line : lines) {
            if (!line.leavesAll()) {
                answer(y, line);
            }
        }
        compareLooks(title, x, y);
    }

    static void end() {
        System.out.println(calls + " calls, " + wrong + " wrong");
        if (wrong != 0) {
            System.exit(1);
        }
    }

    static void fail(String title, String what) {
        wrong++;
        System.out.println(title + ": " + what);
    }

    private static void compareLooks(String title, BlindMaps x, BlindMaps y) {
        List<String> one = new ArrayList<>();
        List<String> other = new ArrayList<>();
        look(x, one);
        look(y, other);
        for (int i = 0; i < one.size(); i++) {
            if (!one.get(i).equals(other.get(i))) {
                fail(title, "changed by an ERROR: " + one.get(i) + ", without it " + other.get(i));
                return;
            }
        }
    }

    /** All that can be seen, those looks last that change it; the IMAGE, too. */
    private static void look(BlindMaps x, List<String> seen) {
        for (int i = 0; i < 30; i++) {
            seen.add("body " + i + " " + x.body(i));
        }
        lookAtAtlas(x, seen);
        lookAtSheets(x, seen);
        seen.add("image " + x.restore());
        lookAtAtlas(x, seen);
        seen.add("tape " + x.text(0) + " " + x.count(2));
        for (int spot = 0; spot < 24; spot++) {
            seen.add("with the tape " + x.says(0, spot / 4, spot % 4, 1));
        }
        seen.add("waits " + x.count(3) + " " + x.check(0));
        seen.add("images " + x.image());
    }

    private static void lookAtAtlas(BlindMaps x, List<String> seen) {
        for (int what = 0; what < 6; what++) {
            seen.add("count " + what + " " + x.count(what));
        }
        for (int slot = 0; slot < 24; slot++) {
            for (int what = 0; what < 5; what++) {
                seen.add("wayIs " + slot + " " + what + " " + x.wayIs(slot / 4, slot % 4, what));
            }
        }
        for (int v = 0; v < 4; v++) {
            for (int what = 0; what < 10; what++) {
                seen.add("volumeIs " + v + " " + what + " " + x.volumeIs(v, what));
            }
            for (int slot = 0; slot < 24; slot++) {
                seen.add("says " + v + " " + slot + " " + x.says(v, slot / 4, slot % 4, 0));
                seen.add("steps " + v + " " + slot + " " + x.says(v, slot / 4, slot % 4, 1));
            }
            seen.add("worth " + v + " " + x.worth(v));
        }
    }

    private static void lookAtSheets(BlindMaps x, List<String> seen) {
        for (int sheet = 0; sheet < 4; sheet++) {
            for (int spot = 0; spot < 6; spot++) {
                for (int what = 0; what < 4; what++) {
                    seen.add("walk " + sheet + " " + x.walk(0, spot, sheet, what));
                }
            }
            for (int i = 0; i < 16; i++) {
                seen.add("over " + sheet + " " + x.over(i / 4, i % 4, i % 3, sheet, i % 2));
            }
            seen.add("ways " + sheet + " " + x.ways(sheet) + " " + x.count(1));
        }
    }

    private static List<Line> linesOf(String text) {
        List<Line> lines = new ArrayList<>();
        for (String raw : text.split("\n")) {
            String row = raw.replaceFirst("\\s#.*|^#.*", "").trim();
            if (row.isEmpty()) {
                continue;
            }
            int cut = row.lastIndexOf(" = ");
            int open = row.indexOf('(');
            String call = row.substring(0, cut).trim();
            String inside = call.substring(open + 1, call.length() - 1);
            List<String> arguments = new ArrayList<>();
            if (inside.startsWith("\"")) {
                arguments.add(inside);
            } else if (!inside.isBlank()) {
                for (String argument : inside.split(",")) {
                    arguments.add(argument.trim());
                }
            }
            lines.add(new Line(call, call.substring(0, open), arguments, row.substring(cut + 3).trim()));
        }
        return lines;
    }

    private static long answer(BlindMaps x, Line line) {
        if (!line.arguments().isEmpty() && line.arguments().get(0).startsWith("\"")) {
            String quoted = line.arguments().get(0);
            return feed(x, quoted.substring(1, quoted.length() - 1));
        }
        Method method = methodOf(line.name());
        Class<?>[] types = method.getParameterTypes();
        Object[] values = new Object[types.length];
        for (int i = 0; i < types.length; i++) {
            String argument = line.arguments().get(i);
            values[i] = types[i] == long.class ? (Object) Long.parseLong(argument) : (Object) Integer.parseInt(argument);
        }
        try {
            return ((Number) method.invoke(x, values)).longValue();
        } catch (ReflectiveOperationException e) {
            throw new IllegalStateException(line.call(), e);
        }
    }

    static Method methodOf(String name) {
        for (Method method : BlindMaps.class.getMethods()) {
            if (method.getName().equals(name)) {
                return method;
            }
        }
        throw new IllegalStateException("no method " + name);
    }

    /** Feeds a text by up to eight bytes, and answers what the last feed() did. */
    static long feed(BlindMaps x, String text) {
        long answer = 0;
        for (int from = 0; from < text.length(); from += 8) {
            int n = Math.min(8, text.length() - from);
            long word = 0;
            for (int i = 0; i < n; i++) {
                word |= (text.charAt(from + i) & 255L) << (8 * i);
            }
            answer = x.feed(word, n);
        }
        return answer;
    }
}

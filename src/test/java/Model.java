import java.util.ArrayList;
import java.util.HashSet;
import java.util.List;
import java.util.Set;
import java.util.regex.Pattern;

/**
 * The document once more, as plainly as the whole library allows and by other means than the class: kinds
 * are Java classes, PARTED is an exception, a TEXT is recognised by rewriting and worked out by splitting.
 */
final class Model {
    static final long BEYOND = 1;
    static final long NONE = 2;
    static final long STATE = 3;
    static final long FULL = 4;
    static final long KIND = 5;
    static final long PARTED = 6;

    /** An ERROR on its way out of an act. */
    static final class Refused extends RuntimeException {
        private static final long serialVersionUID = 1;

        final int k;

        Refused(long k) {
            super(null, null, false, false);
            this.k = (int) k;
        }
    }

    private record Road(int a, int way, int b, int length, Set<Integer> lackedBy) {
        Road copy() {
            return new Road(a, way, b, length, new HashSet<>(lackedBy));
        }

        boolean startsAt(int place, int direction) {
            return a == place && way == direction || b == place && (way + 2) % 4 == direction;
        }

        int endFrom(int place, int direction) {
            return a == place && way == direction ? b : a;
        }
    }

    // ---- kinds

    private static class Volume {
        int k;
        int m;
        List<Integer> trace = new ArrayList<>();

        int kind() { return 0; }
        int turn() { return 0; }
        boolean hides(int length) { return false; }
        boolean bends(int length) { return false; }
        int steps(int length, String text) { return length; }
        int reads(int x) { trace.add(10); return x + k; }
        int paces(int x) { trace.add(11); return reads(x) * 2; }
        int sells(int x) { trace.add(12); return paces(x) - m; }

        int parts(int x) {
            trace.add(13);
            if (m == k) {
                throw new Refused(PARTED);
            }
            return x / (m - k);
        }
    }

    private static class Old extends Volume {
        int kind() { return 1; }
        int steps(int length, String text) { return length * (10 + m) / 10; }
        int reads(int x) { trace.add(20); return super.reads(x) - 4; }
        int parts(int x) { trace.add(21); return super.parts(x) + paces(1); }
    }

    private static class Turned extends Volume {
        int kind() { return 2; }
        int turn() { return m % 4; }
        int paces(int x) { trace.add(30); return 0 - super.paces(x); }
    }

    private static class Lied extends Volume {
        int kind() { return 3; }
        boolean hides(int length) { return length > 10 * m; }
        boolean bends(int length) { return length <= m; }
        int sells(int x) { trace.add(40); return super.sells(x / 2); }
    }

    private static class Copied extends Old {
        int kind() { return 4; }
        int steps(int length, String text) { return super.steps(length, text) + 1; }
        int reads(int x) { trace.add(50); return super.reads(x) * 3; }
        int sells(int x) { trace.add(51); return super.sells(x) ^ k; }
    }

    private static class Night extends Turned {
        int kind() { return 5; }
        int turn() { return (super.turn() + 2) % 4; }
        int paces(int x) { trace.add(60); return super.paces(x + 1); }
    }

    private static class Told extends Volume {
        int kind() { return 6; }
        int steps(int length, String text) {
            return text == null ? super.steps(length, text) : workOut(text, 0, length, m, k);
        }
        int reads(int x) { trace.add(70); return 9; }
        int paces(int x) { trace.add(71); return super.paces(x) + m; }
    }

    private static Volume volumeOf(int number, int km) {
        List<Volume> kinds = List.of(new Volume(), new Old(), new Turned(), new Lied(), new Copied(), new Night(),
            new Told());
        Volume volume = kinds.get(km / 10);
        volume.k = number;
        volume.m = km % 10;
        return volume;
    }

    private static Class<?> classOf(int kind) {
        return volumeOf(0, 10 * kind).getClass();
    }

    // ---- state

    private static final class State {
        List<Road> roads = new ArrayList<>();
        int[] km = new int[4];
        List<List<Integer>> placesBySpot = new ArrayList<>();
        List<Integer> tape = new ArrayList<>();
        String[] texts = new String[2];
        List<Integer> waiting = new ArrayList<>();
        int z = 1;

        State() {
            for (int v = 0; v < 4; v++) {
                placesBySpot.add(new ArrayList<>(List.of(0, 1, 2, 3, 4, 5)));
            }
        }

        State copy() {
            State other = new State();
            for (Road road : roads) {
                other.roads.add(road.copy());
            }
            other.km = km.clone();
            for (int v = 0; v < 4; v++) {
                other.placesBySpot.set(v, new ArrayList<>(placesBySpot.get(v)));
            }
            other.tape = new ArrayList<>(tape);
            other.texts = texts.clone();
            other.waiting = new ArrayList<>(waiting);
            other.z = z;
            return other;
        }
    }

    private State now = new State();
    private State kept;
    private int images;
    private List<Integer> trace = new ArrayList<>();
    private final long[][] sheets = new long[4][];
    private final int[] bits = new int[4];
    private final int[] refusals = new int[7];

    /** What an act answers; arguments are as for the class of the document. */
    long act(String name, long[] v) {
        try {
            return answer(name, v);
        } catch (Refused refused) {
            refusals[refused.k]++;
            return -1000000000L - refused.k;
        }
    }

    private long answer(String name, long[] v) {
        int[] i = new int[5];
        for (int j = 0; j < v.length; j++) {
            i[j] = (int) v[j];
        }
        switch (name) {
            case "way": return way(i[0], i[1], i[2], i[3]);
            case "blast": return blast(i[0], i[1]);
            case "wayIs": return wayIs(i[0], i[1], i[2]);
            case "volume": return volume(i[0], i[1]);
            case "volumeIs": return volumeIs(i[0], i[1]);
            case "as": return as(i[0], i[1]);
            case "swap": return swap(i[0], i[1], i[2]);
            case "lacks": return lacks(i[0], i[1], i[2]);
            case "says": return says(i[0], i[1], i[2], i[3]);
            case "feed": return feed(v[0], i[1]);
            case "text": return text(i[0]);
            case "untell": return untell(i[0]);
            case "walk": return walk(i[0], i[1], i[2], i[3]);
            case "draws": return draws(i[0], i[1], i[2]);
            case "seed": { int was = now.z; now.z = i[0]; return was; }
            case "best": return best(i[0], i[1], i[2]);
            case "fits": return fits(i[0], i[1], i[2]);
            case "over": return over(i[0], i[1], i[2], i[3], i[4]);
            case "boy": return boy(i[0], i[1]);
            case "worth": return worth(i[0]);
            case "longer": return longer(i[0], i[1], i[2]);
            case "leftOut": return leftOut(i[0]);
            case "voice": return voice(i[0], i[1], i[2]);
            case "body": { ask(i[0] >= 0 && i[0] < trace.size(), NONE); return trace.get(i[0]); }
            case "sheet": return sheet(i[0], i[1], i[2]);
            case "put": return put(i[0], i[1], i[2]);
            case "move": return move(i[0], i[1], i[2], i[3], i[4]);
            case "ways": return ways(i[0]);
            case "image": kept = now.copy(); return ++images;
            case "restore": { ask(kept != null, NONE); now = kept.copy(); return now.roads.size(); }
            case "tell": { ask(now.waiting.size() < 24, FULL); now.waiting.add(i[0]); return now.waiting.size(); }
            case "check": return check(i[0]);
            case "count": return count(i[0]);
            case "told": { within(i[0], 1, 6); return refusals[i[0]]; }
            default: throw new IllegalStateException(name);
        }
    }

    private static void ask(boolean fine, long k) {
        if (!fine) {
            throw new Refused(k);
        }
    }

    private static void within(int v, int least, int most) {
        ask(v >= least && v <= most, BEYOND);
    }

    private Road road(int place, int way) {
        for (Road road : now.roads) {
            if (road.startsAt(place, way)) {
                return road;
            }
        }
        return null;
    }

    private Volume volumeAt(int v) {
        return volumeOf(v, now.km[v]);
    }

    /** What a VOLUME SAYS of a WAY of THE ISLAND: the SPOT there and STEPS, or null. */
    private int[] said(int v, int place, int way) {
        Road road = road(place, way);
        Volume volume = volumeAt(v);
        if (road == null || road.lackedBy().contains(v) || volume.hides(road.length())) {
            return null;
        }
        int end = volume.bends(road.length()) ? place : road.endFrom(place, way);
        int steps = Math.min(999, Math.max(1, volume.steps(road.length(), now.texts[0])));
        return new int[] {now.placesBySpot.get(v).indexOf(end), steps};
    }

    /** What a VOLUME SAYS of a SPOT and a way of its own. */
    private int[] told(int v, int spot, int direction) {
        int place = now.placesBySpot.get(v).get(spot);
        for (int way = 0; way < 4; way++) {
            if ((way + volumeAt(v).turn()) % 4 == direction) {
                return said(v, place, way);
            }
        }
        throw new IllegalStateException();
    }

    // ---- the island, volumes

    private long way(int a, int way, int b, int length) {
        within(a, 0, 5);
        within(way, 0, 3);
        within(b, 0, 5);
        within(length, 1, 99);
        ask(road(a, way) == null && road(b, (way + 2) % 4) == null, STATE);
        now.roads.add(new Road(a, way, b, length, new HashSet<>()));
        return 1;
    }

    private long blast(int a, int way) {
        within(a, 0, 5);
        within(way, 0, 3);
        Road road = road(a, way);
        ask(road != null, NONE);
        now.roads.removeIf(r -> r == road);
        return road.length();
    }

    private long wayIs(int a, int way, int what) {
        within(a, 0, 5);
        within(way, 0, 3);
        within(what, 0, 4);
        Road road = road(a, way);
        ask(road != null, NONE);
        List<Integer> steps = new ArrayList<>();
        for (int v = 0; v < 4; v++) {
            int[] said = said(v, a, way);
            if (said != null) {
                steps.add(said[1]);
            }
        }
        steps.sort(null);
        switch (what) {
            case 0: return road.endFrom(a, way);
            case 1: return road.length();
            case 2: return steps.size();
            default: ask(!steps.isEmpty(), NONE);
        }
        return steps.get(what == 3 ? 0 : steps.size() - 1);
    }

    private long volume(int v, int km) {
        within(v, 0, 3);
        within(km, 0, 69);
        int was = now.km[v];
        now.km[v] = km;
        return was;
    }

    private long volumeIs(int v, int what) {
        within(v, 0, 3);
        within(what, 0, 9);
        Volume volume = volumeAt(v);
        switch (what) {
            case 0: return volume.kind();
            case 1: return volume.m;
            case 2: return volume.turn();
            case 3: return now.roads.stream().filter(r -> r.lackedBy().contains(v)).count();
            default: return now.placesBySpot.get(v).indexOf(what - 4);
        }
    }

    private long as(int v, int kind) {
        within(v, 0, 3);
        within(kind, 0, 6);
        ask(classOf(kind).isInstance(volumeAt(v)), KIND);
        return volumeAt(v).m;
    }

    private long swap(int v, int a, int b) {
        within(v, 0, 3);
        within(a, 0, 5);
        within(b, 0, 5);
        List<Integer> places = now.placesBySpot.get(v);
        int one = places.indexOf(a);
        int other = places.indexOf(b);
        places.set(one, b);
        places.set(other, a);
        return other;
    }

    private long lacks(int v, int a, int way) {
        within(v, 0, 3);
        within(a, 0, 5);
        within(way, 0, 3);
        Road road = road(a, way);
        ask(road != null, NONE);
        if (road.lackedBy().remove(v)) {
            return 0;
        }
        road.lackedBy().add(v);
        return 1;
    }

    private long says(int v, int spot, int way, int what) {
        within(v, 0, 3);
        within(spot, 0, 5);
        within(way, 0, 3);
        within(what, 0, 1);
        int[] said = told(v, spot, way);
        ask(said != null, NONE);
        return said[what];
    }

    // ---- texts

    private static final Pattern NUMBER = Pattern.compile("(?<![0-9])[0-9]{1,4}(?![0-9])");
    private static final Pattern WHOLE = Pattern.compile(whole());

    /** T with q for each Q, made up of the lines of the document. */
    private static String whole() {
        String p = "q(?:[*/%]q)*";
        String s = p + "(?:[+-]" + p + ")*";
        String b = s + "(?:[<=>]" + s + ")?";
        String a = b + "(?:&" + b + ")*";
        return a + "(?:\\|" + a + ")*";
    }

    private static boolean isText(String text, String names) {
        if (mostOpen(text) > 5 || !text.matches("[0-9" + names + "!()|&<=>+*/%-]*")) {
            return false;
        }
        String row = NUMBER.matcher(text).replaceAll("q").replaceAll("[" + names + "]", "q");
        for (int i = 0; i < 100; i++) {
            row = row.replaceAll("!q", "q").replaceAll("\\(" + WHOLE.pattern() + "\\)", "q");
        }
        return WHOLE.matcher(row).matches();
    }

    /** How many of ! and ( are open at once, at most: an operand closes all ! ahead of it. */
    private static int mostOpen(String text) {
        StringBuilder open = new StringBuilder();
        int most = 0;
        for (char c : text.toCharArray()) {
            if (c == '!' || c == '(') {
                open.append(c);
                most = Math.max(most, open.length());
                continue;
            }
            if (c == ')' && open.indexOf("(") >= 0) {
                open.setLength(open.lastIndexOf("("));
            }
            if (c == ')' || Character.isLetterOrDigit(c)) {
                while (open.length() > 0 && open.charAt(open.length() - 1) == '!') {
                    open.setLength(open.length() - 1);
                }
            }
        }
        return most;
    }

    /** Whether some TEXT begins so: any that does can be ended by a number and some closings. */
    private static boolean goesOn(String beginning, String names) {
        String closing = "";
        for (int i = 0; i <= 5; i++) {
            if (isText(beginning + closing, names) || isText(beginning + "1" + closing, names)) {
                return true;
            }
            closing += ")";
        }
        return false;
    }

    private static int workOut(String text, int s, int l, int m, int v) {
        for (String signs : List.of("|", "&", "<=>", "+-", "*/%")) {
            int at = lastOutside(text, signs);
            if (at >= 0) {
                int left = workOut(text.substring(0, at), s, l, m, v);
                int right = workOut(text.substring(at + 1), s, l, m, v);
                return join(text.charAt(at), left, right);
            }
        }
        if (text.startsWith("!")) {
            return workOut(text.substring(1), s, l, m, v) == 0 ? 1 : 0;
        }
        if (text.startsWith("(")) {
            return workOut(text.substring(1, text.length() - 1), s, l, m, v);
        }
        switch (text) {
            case "s": return s;
            case "l": return l;
            case "m": return m;
            case "v": return v;
            default: return Integer.parseInt(text);
        }
    }

    private static int lastOutside(String text, String signs) {
        int open = 0;
        for (int i = text.length() - 1; i >= 0; i--) {
            char c = text.charAt(i);
            open += c == ')' ? 1 : c == '(' ? -1 : 0;
            if (open == 0 && signs.indexOf(c) >= 0) {
                return i;
            }
        }
        return -1;
    }

    private static int join(char sign, int a, int b) {
        switch (sign) {
            case '|': return (a != 0) | (b != 0) ? 1 : 0;
            case '&': return (a != 0) & (b != 0) ? 1 : 0;
            case '<': return Integer.compare(a, b) < 0 ? 1 : 0;
            case '=': return Integer.compare(a, b) == 0 ? 1 : 0;
            case '>': return Integer.compare(a, b) > 0 ? 1 : 0;
            case '+': return (int) ((long) a + b);
            case '-': return (int) ((long) a - b);
            case '*': return (int) ((long) a * b);
            case '/': return b == 0 ? 0 : (int) ((long) a / b);
            default: return b == 0 ? 0 : (int) ((long) a % b);
        }
    }

    private long feed(long word, int n) {
        within(n, 1, 8);
        ask(now.tape.size() + n <= 60, FULL);
        for (int i = 0; i < n; i++) {
            now.tape.add((int) ((word >> (8 * i)) & 0xff));
        }
        return now.tape.size();
    }

    private long text(int use) {
        within(use, 0, 1);
        String names = use == 0 ? "lmv" : "slv";
        StringBuilder text = new StringBuilder();
        for (int sign : now.tape) {
            text.append((char) sign);
        }
        now.tape.clear();
        if (isText(text.toString(), names)) {
            now.texts[use] = text.toString();
            return 1;
        }
        for (int i = 0; i < text.length(); i++) {
            if (!goesOn(text.substring(0, i + 1), names)) {
                return -10 - i;
            }
        }
        return -10 - text.length();
    }

    private long untell(int use) {
        within(use, 0, 1);
        long was = now.texts[use] == null ? 0 : 1;
        now.texts[use] = null;
        return was;
    }

    // ---- walks

    private long walk(int v, int spot, int sheet, int what) {
        within(v, 0, 3);
        within(spot, 0, 5);
        within(sheet, 0, 3);
        within(what, 0, 3);
        ask(sheets[sheet] != null, NONE);
        for (long number : sheets[sheet]) {
            ask(number >= 0 && number <= 3, BEYOND);
        }
        int end = spot;
        int gone = 0;
        int paced = 0;
        for (long way : sheets[sheet]) {
            int[] said = told(v, end, (int) way);
            if (said == null) {
                break;
            }
            end = said[0];
            paced += said[1];
            gone++;
        }
        int closes = gone == sheets[sheet].length && end == spot ? 1 : 0;
        return List.of(end, gone, paced, closes).get(what);
    }

    private long draws(int v, int spot, int n) {
        within(v, 0, 3);
        within(spot, 0, 5);
        within(n, 1, 60);
        int end = spot;
        for (int i = 0; i < n; i++) {
            now.z = now.z * 1103515245 + 12345;
            int[] said = told(v, end, (now.z >>> 8) % 4);
            end = said == null ? end : said[0];
        }
        return end;
    }

    // ---- one over the other

    private static List<int[]> rows() {
        List<int[]> rows = new ArrayList<>();
        for (int number = 12345; number <= 543210; number++) {
            int[] row = new int[6];
            int rest = number;
            int seen = 0;
            for (int i = 5; i >= 0; i--) {
                row[i] = rest % 10;
                rest /= 10;
                seen |= row[i] < 6 ? 1 << row[i] : 0;
            }
            if (seen == 63) {
                rows.add(row);
            }
        }
        return rows;
    }

    private static final List<int[]> ROWS = rows();

    /** AGAINST and FOR. */
    private static int[] weigh(int[][][] a, int[][][] b, int turn, int[] row) {
        int[] sum = new int[2];
        for (int spot = 0; spot < 6; spot++) {
            for (int way = 0; way < 4; way++) {
                int[] one = a[spot][way];
                int[] other = b[row[spot]][(way + turn) % 4];
                if (one != null && other != null) {
                    sum[row[one[0]] == other[0] ? 1 : 0]++;
                }
            }
        }
        return sum;
    }

    private int[][][] allTold(int v) {
        int[][][] all = new int[6][4][];
        for (int spot = 0; spot < 6; spot++) {
            for (int way = 0; way < 4; way++) {
                all[spot][way] = told(v, spot, way);
            }
        }
        return all;
    }

    private long best(int a, int b, int what) {
        within(a, 0, 3);
        within(b, 0, 3);
        within(what, 0, 8);
        int[][][] one = allTold(a);
        int[][][] other = allTold(b);
        int[] best = null;
        for (int turn = 0; turn < 4; turn++) {
            for (int[] row : ROWS) {
                int[] sum = weigh(one, other, turn, row);
                if (best == null || 100 * sum[0] - sum[1] < 100 * best[0] - best[1]) {
                    best = new int[] {sum[0], sum[1], turn, row[0], row[1], row[2], row[3], row[4], row[5]};
                }
            }
        }
        return best[what];
    }

    private long fits(int a, int b, int c) {
        within(a, 0, 3);
        within(b, 0, 3);
        within(c, 0, 24);
        int[][][] one = allTold(a);
        int[][][] other = allTold(b);
        long n = 0;
        for (int turn = 0; turn < 4; turn++) {
            for (int[] row : ROWS) {
                n += weigh(one, other, turn, row)[0] <= c ? 1 : 0;
            }
        }
        return n;
    }

    private long over(int a, int b, int turn, int sheet, int what) {
        within(a, 0, 3);
        within(b, 0, 3);
        within(turn, 0, 3);
        within(sheet, 0, 3);
        within(what, 0, 1);
        ask(sheets[sheet] != null, NONE);
        ask(sheets[sheet].length >= 6, STATE);
        Set<Long> seen = new HashSet<>();
        int[] row = new int[6];
        for (int i = 0; i < 6; i++) {
            long spot = sheets[sheet][i];
            ask(spot >= 0 && spot <= 5 && seen.add(spot), STATE);
            row[i] = (int) spot;
        }
        return weigh(allTold(a), allTold(b), turn, row)[what];
    }

    private long boy(int place, int what) {
        within(place, 0, 5);
        within(what, 0, 2);
        List<List<Integer>> rows = new ArrayList<>();
        addRows(place, new ArrayList<>(), rows);
        ask(!rows.isEmpty(), NONE);
        // Their figures are in the order of length, then of row.
        rows.sort((one, other) -> Long.compare(figures(one), figures(other)));
        List<Integer> best = null;
        int most = 0;
        for (List<Integer> row : rows) {
            Set<Integer> things = new HashSet<>();
            for (int v = 0; v < 4; v++) {
                things.add(stepsOf(v, place, row));
            }
            if (things.size() > most) {
                most = things.size();
                best = row;
            }
        }
        return List.of((long) most, (long) best.size(), figures(best)).get(what);
    }

    private void addRows(int place, List<Integer> ahead, List<List<Integer>> rows) {
        for (int way = 0; way < 4 && ahead.size() < 3; way++) {
            Road road = road(place, way);
            if (road != null) {
                List<Integer> row = new ArrayList<>(ahead);
                row.add(way);
                rows.add(row);
                addRows(road.endFrom(place, way), row, rows);
            }
        }
    }

    private static long figures(List<Integer> row) {
        long number = 0;
        for (int way : row) {
            number = 10 * number + way + 1;
        }
        return number;
    }

    private int stepsOf(int v, int place, List<Integer> row) {
        int at = place;
        int sum = 0;
        for (int way : row) {
            int[] said = said(v, at, way);
            if (said == null) {
                return -1;
            }
            sum += said[1];
            at = road(at, way).endFrom(at, way);
        }
        return sum;
    }

    private long worth(int v) {
        within(v, 0, 3);
        long sum = 0;
        for (int place = 0; place < 6; place++) {
            for (int way = 0; way < 4; way++) {
                int[] said = said(v, place, way);
                if (said != null) {
                    String text = now.texts[1];
                    int value = text == null ? 1 : workOut(text, said[1], road(place, way).length(), 0, v);
                    sum += Math.min(99, Math.max(-99, value));
                }
            }
        }
        return sum;
    }

    private long longer(int a, int b, int part) {
        within(a, 0, 3);
        within(b, 0, 3);
        within(part, 0, 1);
        int above = 0;
        int below = 0;
        for (Road road : now.roads) {
            int[] one = said(a, road.a(), road.way());
            int[] other = said(b, road.a(), road.way());
            if (one != null && other != null) {
                above += one[1];
                below += other[1];
            }
        }
        if (below == 0) {
            return part;
        }
        int divisor = java.math.BigInteger.valueOf(above).gcd(java.math.BigInteger.valueOf(below)).intValue();
        return (part == 0 ? above : below) / divisor;
    }

    private long leftOut(int v) {
        within(v, 0, 3);
        int longest = 0;
        int best = 0;
        for (int name = 23; name >= 0; name--) {
            Road road = road(name % 6, name / 6);
            if (road != null && said(v, name % 6, name / 6) == null && road.length() >= longest) {
                longest = road.length();
                best = name;
            }
        }
        ask(longest > 0, NONE);
        return best;
    }

    // ---- voices, sheets, what is told

    private long voice(int v, int voice, int x) {
        within(v, 0, 3);
        within(voice, 0, 3);
        Volume volume = volumeAt(v);
        // Ahead of the voice, since it is THE TRACE of one that is PARTED, too.
        trace = volume.trace;
        switch (voice) {
            case 0: return volume.reads(x);
            case 1: return volume.paces(x);
            case 2: return volume.sells(x);
            default: return volume.parts(x);
        }
    }

    private long sheet(int sheet, int width, int n) {
        within(sheet, 0, 3);
        ask(List.of(0, 8, 16, 32).contains(width), BEYOND);
        if (width == 0) {
            sheets[sheet] = null;
            return 1;
        }
        ask(n >= 0, STATE);
        within(n, 0, 24);
        sheets[sheet] = new long[n];
        bits[sheet] = width;
        return 1;
    }

    private long put(int sheet, int i, int v) {
        within(sheet, 0, 3);
        ask(sheets[sheet] != null, NONE);
        within(i, 0, sheets[sheet].length - 1);
        sheets[sheet][i] = v & ((1L << bits[sheet]) - 1);
        return 1;
    }

    private long move(int sheet, int i, int other, int j, int n) {
        within(sheet, 0, 3);
        within(other, 0, 3);
        ask(sheets[sheet] != null && sheets[other] != null, NONE);
        ask(bits[sheet] == bits[other], KIND);
        within(n, 0, 24);
        within(i, 0, sheets[sheet].length - n);
        within(j, 0, sheets[other].length - n);
        long[] moved = new long[n];
        for (int k = 0; k < n; k++) {
            moved[k] = sheets[sheet][i + k];
        }
        for (int k = 0; k < n; k++) {
            sheets[other][j + k] = moved[k];
        }
        return n;
    }

    private long ways(int sheet) {
        within(sheet, 0, 3);
        ask(sheets[sheet] != null, NONE);
        int came = 0;
        try {
            for (int i = 0; i + 4 <= sheets[sheet].length; i += 4) {
                long[] v = sheets[sheet];
                came += (int) way((int) v[i], (int) v[i + 1], (int) v[i + 2], (int) v[i + 3]);
            }
        } catch (Refused refused) {
            return came;
        }
        return came;
    }

    private long check(int v) {
        List<Integer> waiting = now.waiting;
        now.waiting = new ArrayList<>();
        within(v, 0, 3);
        for (int i = 0; i < waiting.size(); i++) {
            int[] said = told(v, i / 4, i % 4);
            if ((said == null ? 0 : said[1]) != waiting.get(i)) {
                return 1 + i;
            }
        }
        return 0;
    }

    private long count(int what) {
        within(what, 0, 5);
        int lengths = now.roads.stream().mapToInt(Road::length).sum();
        return List.of(now.roads.size(), lengths, now.tape.size(), now.waiting.size(), Math.min(30, trace.size()),
            now.z).get(what);
    }
}

import java.util.Arrays;

/**
 * Each act with all its arguments at their corners at once, compared with the Model: the least and the greatest
 * that is taken, the next one on each side, and the least and the greatest int. So every ERROR meets every other.
 */
public final class CornersTest {
    private static final int CALLS = 512;
    /** The acts, and the least and the greatest of each argument; of a word only the corners of all longs. */
    private static final String[] ACTS = {
        "way 0..5 0..3 0..5 1..99", "blast 0..5 0..3", "wayIs 0..5 0..3 0..4", "volume 0..3 0..69",
        "volumeIs 0..3 0..9", "as 0..3 0..6", "swap 0..3 0..5 0..5", "lacks 0..3 0..5 0..3", "says 0..3 0..5 0..3 0..1",
        "text 0..1", "untell 0..1", "walk 0..3 0..5 0..3 0..3", "draws 0..3 0..5 1..60", "seed -1..0",
        "best 0..3 0..3 0..8", "fits 0..3 0..3 0..24", "over 0..3 0..3 0..3 0..3 0..1", "boy 0..5 0..2", "worth 0..3",
        "longer 0..3 0..3 0..1", "leftOut 0..3", "voice 0..3 0..3 -1..0", "body 0..29", "sheet 0..3 8..32 0..24",
        "sheet 0..3 0..16 0..24", "put 0..3 0..23 0..255", "move 0..3 0..23 0..3 0..23 0..1",
        "move 0..3 0..1 0..3 0..1 5..24", "ways 0..3", "tell 0..1", "check 0..3", "count 0..5", "told 1..6", "feed 0..1 1..8"};

    /** What stands when the corners are asked: nothing, a little of all, and as much as there can be. */
    private static final String[][] STATES = {
        {},
        {"way 0 0 5 7", "way 0 3 3 20", "way 5 3 5 99", "volume 0 19", "volume 1 42", "volume 2 57", "volume 3 33",
            "swap 3 0 5", "swap 1 1 2", "lacks 0 0 0", "lacks 3 5 3", "feed 49 1", "text 1", "feed 3156012 3", "text 0",
            "feed 10809 2", "sheet 0 8 6", "put 0 1 1", "put 0 2 2", "put 0 3 3", "put 0 4 4", "put 0 5 5",
            "sheet 3 16 5", "put 3 0 3", "voice 1 3 5", "image", "tell 5", "tell 6", "seed 99"},
        {"way 0 0 1 1", "way 1 0 2 99", "way 2 0 3 10", "way 3 0 4 90", "way 4 0 5 91", "way 5 0 0 5", "way 0 1 0 9",
            "way 1 1 1 11", "way 2 1 2 50", "way 3 1 3 30", "way 4 1 4 2", "way 5 1 5 89", "volume 0 69", "volume 1 39",
            "volume 2 23", "volume 3 49", "feed 3156012 3", "text 0", "feed 3288435 3", "text 1", "feed 0 8", "feed 0 8",
            "feed 0 8", "feed 0 8", "feed 0 8", "feed 0 8", "feed 0 8", "feed 0 4", "sheet 0 8 24", "sheet 1 8 24",
            "sheet 2 8 24", "sheet 3 8 24", "put 0 23 3", "put 3 1 1", "put 3 2 2", "put 3 3 3", "put 3 4 4",
            "put 3 5 5", "tell 1", "tell 1", "tell 1", "tell 1", "tell 1", "tell 1", "tell 1", "tell 1", "tell 1",
            "tell 1", "tell 1", "tell 1", "tell 1", "tell 1", "tell 1", "tell 1", "tell 1", "tell 1", "tell 1",
            "tell 1", "tell 1", "tell 1", "tell 1", "tell 1", "voice 3 2 5", "image"}};

    private final String[] state;
    private BlindMaps x;
    private Model model;
    private int made;
    private static int asked = 0;

    private CornersTest(String[] state) {
        this.state = state;
    }

    public static void main(String[] args) {
        for (String[] state : STATES) {
            for (String act : ACTS) {
                new CornersTest(state).go(act.split(" "));
            }
        }
        System.out.println(asked + " calls at corners");
        Script.end();
    }

    private void go(String[] words) {
        begin();
        long[] v = new long[words.length - 1];
        long[][] corners = new long[v.length][];
        for (int i = 0; i < v.length; i++) {
            corners[i] = cornersOf(words[i + 1], Script.methodOf(words[0]).getParameterTypes()[i]);
        }
        int all = 1;
        for (long[] some : corners) {
            all *= some.length;
        }
        for (int one = 0; one < all; one++) {
            int rest = one;
            for (int i = v.length - 1; i >= 0; i--) {
                v[i] = corners[i][rest % corners[i].length];
                rest /= corners[i].length;
            }
            compare(words[0], v);
            asked++;
            if (made + 12 > CALLS) {
                end();
                begin();
            }
        }
        end();
    }

    private static long[] cornersOf(String bounds, Class<?> type) {
        if (type == long.class) {
            return new long[] {Long.MIN_VALUE, -1, 0, Long.MAX_VALUE};
        }
        int cut = bounds.indexOf("..");
        long least = Long.parseLong(bounds.substring(0, cut));
        long most = Long.parseLong(bounds.substring(cut + 2));
        return new long[] {Integer.MIN_VALUE, least - 1, least, most, most + 1, Integer.MAX_VALUE};
    }

    private void begin() {
        x = new BlindMaps();
        model = new Model();
        made = 0;
        for (String row : state) {
            String[] words = row.split(" ");
            long[] v = new long[words.length - 1];
            for (int i = 0; i < v.length; i++) {
                v[i] = Long.parseLong(words[i + 1]);
            }
            compare(words[0], v);
        }
    }

    private void end() {
        for (int what = 0; what < 6; what++) {
            compare("count", new long[] {what});
            compare("told", new long[] {what + 1});
        }
    }

    private void compare(String name, long[] v) {
        made++;
        long due = model.act(name, v);
        long got = Script.act(x, name, v);
        if (got != due) {
            Script.fail(name + Arrays.toString(v), "answered " + got + ", the model: " + due);
        }
    }
}

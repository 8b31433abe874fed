import java.util.ArrayList;
import java.util.Arrays;
import java.util.List;
import java.util.Random;

/** All promises at once: runs of 512 calls, each answer compared with the Model's; the draws are the same each time. */
public final class RandomRunsTest {
    private static final int CALLS = 512;
    private static final int[] WILD = {-2147483648, -1000000001, -100, -1, 24, 25, 60, 61, 100, 255, 256, 2147483647};
    /** Each act with how often it comes, and the end of each argument's ordinary numbers. */
    private static final String[] ACTS = {
        "way 40 6 4 6 100", "blast 6 6 4", "wayIs 14 6 4 5", "volume 14 4 70", "volumeIs 10 4 10", "as 8 4 7",
        "swap 8 4 6 6", "lacks 16 4 6 4", "says 20 4 6 4 2", "text 4 2", "untell 1 2", "walk 10 4 6 4 4",
        "draws 8 4 6 61", "seed 2 2147483647", "best 3 4 4 9", "fits 2 4 4 12", "over 14 4 4 4 4 2", "boy 12 6 3",
        "worth 10 4", "longer 12 4 4 2", "leftOut 12 4", "voice 16 4 4 100", "body 12 7", "sheet 8 4 1 25",
        "put 50 4 8 6", "move 12 4 8 4 8 9", "ways 6 4", "image 3", "restore 3", "tell 12 30", "check 5 4",
        "count 8 6", "told 8 7", "feed 4 100 9", "feedText 14 2", "tellSaid 6 4", "row 5 4", "roads 4 4",
        "route 5 4", "parting 4 4"};

    private final Random random;
    private final BlindMaps x = new BlindMaps();
    private final Model model = new Model();
    private final List<String> calls = new ArrayList<>();
    private boolean wrong;

    private RandomRunsTest(long seed) {
        random = new Random(seed);
    }

    public static void main(String[] args) {
        int runs = args.length > 0 ? Integer.parseInt(args[0]) : 120;
        long first = args.length > 1 ? Long.parseLong(args[1]) : 1;
        for (int run = 0; run < runs; run++) {
            new RandomRunsTest(first + run).go(first + run);
        }
        System.out.println(runs + " runs of " + CALLS + " calls");
        Script.end();
    }

    private void go(long seed) {
        int all = 0;
        for (String act : ACTS) {
            all += Integer.parseInt(act.split(" ")[1]);
        }
        while (calls.size() < CALLS && !wrong) {
            int left = random.nextInt(all);
            for (String act : ACTS) {
                String[] words = act.split(" ");
                left -= Integer.parseInt(words[1]);
                if (left < 0) {
                    choose(words);
                    break;
                }
            }
        }
        if (wrong) {
            Script.fail("run " + seed, String.join("\n  ", calls));
        }
    }

    private void choose(String[] words) {
        switch (words[0]) {
            case "feedText": feedText(random.nextInt(3) == 0); break;
            case "tellSaid": tellSaid(random.nextInt(4)); break;
            case "row": putRow(random.nextInt(4)); break;
            case "roads": putRoads(random.nextInt(4)); break;
            case "route": putRoute(random.nextInt(4)); break;
            case "parting": part(random.nextInt(4)); break;
            default: call(words[0], arguments(words));
        }
    }

    private long[] arguments(String[] words) {
        long[] v = new long[words.length - 2];
        for (int i = 0; i < v.length; i++) {
            boolean wild = random.nextInt(40) == 0;
            int end = Integer.parseInt(words[i + 2]);
            v[i] = wild ? WILD[random.nextInt(WILD.length)] : random.nextInt(40) == 0 ? end : random.nextInt(end);
        }
        if (words[0].equals("sheet") && random.nextInt(20) != 0) {
            v[1] = random.nextInt(8) == 0 ? 0 : random.nextInt(3) == 0 ? 16 << random.nextInt(2) : 8;
        }
        if (words[0].equals("feed")) {
            v[0] = random.nextLong();
        }
        if (words[0].equals("voice") && random.nextInt(8) == 0) {
            v[2] = random.nextInt();
        }
        if (words[0].equals("seed")) {
            v[0] = random.nextInt();
        }
        return v;
    }

    /** A TEXT, often one with a slip in it, and the act that reads it. */
    private void feedText(boolean slip) {
        int use = random.nextInt(2);
        StringBuilder text = new StringBuilder(textOf(use, 3 + random.nextInt(3)));
        if (slip && text.length() > 0) {
            String signs = "lmsv0123456789!()|&<=>+-*/% x\u00e9";
            char sign = signs.charAt(random.nextInt(signs.length()));
            switch (random.nextInt(3)) {
                case 0: text.setCharAt(random.nextInt(text.length()), sign); break;
                case 1: text.insert(random.nextInt(text.length() + 1), sign); break;
                default: text.setLength(random.nextInt(text.length()));
            }
        }
        for (int from = 0; from < text.length(); from += 8) {
            int n = Math.min(8, text.length() - from);
            long word = random.nextLong();
            for (int i = 0; i < n; i++) {
                word = (word & ~(255L << (8 * i))) | ((long) text.charAt(from + i) << (8 * i));
            }
            call("feed", word, n);
        }
        call("text", use);
        call("worth", random.nextInt(4));
        call("wayIs", random.nextInt(6), random.nextInt(4), 3 + random.nextInt(2));
    }

    private String textOf(int use, int depth) {
        int kind = depth <= 0 ? random.nextInt(2) : random.nextInt(8);
        switch (kind) {
            case 0: return String.valueOf((use == 0 ? "lmv" : "slv").charAt(random.nextInt(3)));
            case 1: return String.valueOf(random.nextInt(random.nextInt(6) == 0 ? 10000 : 12));
            case 2: return "!" + textOf(use, depth - 2);
            case 3: return "(" + textOf(use, depth - 1) + ")";
            default:
                char sign = "|&<=>+-*/%+-*".charAt(random.nextInt(13));
                return textOf(use, depth - 1) + sign + textOf(use, depth - 2);
        }
    }

    /** The first numbers that check() asks for, mostly as they are said. */
    private void tellSaid(int volume) {
        call("check", volume);
        int n = random.nextInt(27);
        for (int i = 0; i < n; i++) {
            long steps = Math.max(0, model.act("says", new long[] {volume, i / 4, i % 4, 1}));
            x.says(volume, i / 4, i % 4, 1);
            call("tell", random.nextInt(40) == 0 ? steps + 1 : steps);
        }
        call("check", volume);
    }

    /** A SHEET with SPOTS, each once, and sometimes one wrong. */
    private void putRow(int sheet) {
        List<Integer> spots = new ArrayList<>(List.of(0, 1, 2, 3, 4, 5));
        java.util.Collections.shuffle(spots, random);
        call("sheet", sheet, 8, 6 + random.nextInt(2));
        for (int i = 0; i < 6; i++) {
            call("put", sheet, i, random.nextInt(30) == 0 ? random.nextInt(8) : spots.get(i));
        }
        call("over", random.nextInt(4), random.nextInt(4), random.nextInt(4), sheet, random.nextInt(2));
    }

    private void putRoads(int sheet) {
        int n = random.nextInt(13);
        call("sheet", sheet, 8 << random.nextInt(3), n);
        int[] ends = {6, 4, 6, 100};
        for (int i = 0; i < n; i++) {
            call("put", sheet, i, random.nextInt(ends[i % 4]));
        }
        call("ways", sheet);
        call("count", 1);
    }

    /** WALKS by the same SHEET from several SPOTS on. */
    private void putRoute(int sheet) {
        int n = random.nextInt(5);
        call("sheet", sheet, 8 << random.nextInt(3), n);
        for (int i = 0; i < n; i++) {
            call("put", sheet, i, random.nextInt(40) == 0 ? 4 : random.nextInt(4));
        }
        for (int i = 0; i < 6; i++) {
            call("walk", random.nextInt(4), random.nextInt(6), sheet, random.nextInt(4));
        }
    }

    /** A VOICE that is mostly PARTED, and the whole of THE TRACE. */
    private void part(int volume) {
        boolean parts = random.nextInt(4) != 0;
        call("volume", volume, 10 * random.nextInt(7) + (parts ? volume : random.nextInt(10)));
        call("voice", volume, parts ? 3 : random.nextInt(4), random.nextInt(100));
        call("count", 4);
        for (int i = 0; i < 7; i++) {
            call("body", i);
        }
    }

    private void call(String name, long... v) {
        if (calls.size() >= CALLS || wrong) {
            return;
        }
        long due = model.act(name, v);
        long got = Script.act(x, name, v);
        calls.add(name + Arrays.toString(v) + " = " + got + (got == due ? "" : ", the model: " + due));
        wrong = got != due;
    }
}

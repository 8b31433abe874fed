import java.util.Arrays;

/**
 * An island of places and ways, and four volumes of two blind mapmakers that tell of it.
 * Words in capitals are the document's terms.
 */
public final class BlindMaps {
    // An ERROR is answered as LOW less its number.
    private static final int LOW = -1000000000;
    private static final int BEYOND = 1;
    private static final int NONE = 2;
    private static final int STATE = 3;
    private static final int FULL = 4;
    private static final int KIND = 5;
    private static final int PARTED = 6;
    private static final int ERRORS = 6;

    private static final int PLACES = 6;
    private static final int WAYS = 4;
    private static final int SLOTS = PLACES * WAYS;
    private static final int LONGEST = 99;
    private static final int NOWHERE = -1;

    private static final int VOLUMES = 4;
    private static final int KINDS = 7;
    private static final int OLD = 1;
    private static final int TURNED = 2;
    private static final int LIED = 3;
    private static final int COPIED = 4;
    private static final int NIGHT = 5;
    private static final int TOLD = 6;
    /** The KIND that each KIND is under; VOLUME is under none. */
    private static final int[] ABOVE = {-1, 0, 0, 0, 1, 2, 0};

    private static final int TAPE = 60;
    private static final int USES = 2;
    private static final int STEPS = 0;
    private static final int VALUE = 1;

    private static final int SHEETS = 4;
    private static final int NUMBERS = 24;
    private static final int TURNS = 4;
    private static final int ROWS = 720;
    private static final int MOST_DRAWS = 60;

    private final Atlas now = new Atlas();
    private final Atlas kept = new Atlas();
    private int images;
    private final Sheet[] sheets = new Sheet[SHEETS];
    private final TapeReader reader = new TapeReader();
    private final Overlay overlay = new Overlay();
    private final Errand errand = new Errand();
    private final Voices voices = new Voices();
    private final int[] refusals = new int[ERRORS + 1];

    public BlindMaps() {
        for (int i = 0; i < SHEETS; i++) {
            sheets[i] = new Sheet();
        }
    }

    // ---- the island, volumes

    public int way(int a, int way, int b, int length) {
        int error = wayError(a, way, b, length);
        if (error != 0) {
            return refuse(error);
        }
        now.island.join(a, way, b, length);
        return 1;
    }

    public int blast(int a, int way) {
        if (!isWay(a, way)) {
            return refuse(BEYOND);
        }
        int slot = slot(a, way);
        if (!now.island.leads(slot)) {
            return refuse(NONE);
        }
        int length = now.island.lengths[slot];
        now.remove(slot);
        return length;
    }

    public int wayIs(int a, int way, int what) {
        if (!isWay(a, way) || !isWithin(what, 5)) {
            return refuse(BEYOND);
        }
        int slot = slot(a, way);
        if (!now.island.leads(slot)) {
            return refuse(NONE);
        }
        switch (what) {
            case 0:
                return now.island.ends[slot];
            case 1:
                return now.island.lengths[slot];
            case 2:
                return now.sayers(slot);
            default:
                int steps = what == 3 ? now.leastSteps(slot) : now.mostSteps(slot);
                return steps == 0 ? refuse(NONE) : steps;
        }
    }

    public int volume(int volume, int km) {
        if (!isVolume(volume) || !isWithin(km, 10 * KINDS)) {
            return refuse(BEYOND);
        }
        Volume changed = now.volumes[volume];
        int was = 10 * changed.kind + changed.m;
        changed.kind = km / 10;
        changed.m = km % 10;
        return was;
    }

    public int volumeIs(int volume, int what) {
        if (!isVolume(volume) || !isWithin(what, 4 + PLACES)) {
            return refuse(BEYOND);
        }
        Volume asked = now.volumes[volume];
        switch (what) {
            case 0:
                return asked.kind;
            case 1:
                return asked.m;
            case 2:
                return asked.turn();
            case 3:
                return asked.lackedWays();
            default:
                return asked.spots[what - 4];
        }
    }

    public int as(int volume, int kind) {
        if (!isVolume(volume) || !isWithin(kind, KINDS)) {
            return refuse(BEYOND);
        }
        Volume asked = now.volumes[volume];
        return asked.isOf(kind) ? asked.m : refuse(KIND);
    }

    public int swap(int volume, int a, int b) {
        if (!isVolume(volume) || !isPlace(a) || !isPlace(b)) {
            return refuse(BEYOND);
        }
        int[] spots = now.volumes[volume].spots;
        int spot = spots[a];
        spots[a] = spots[b];
        spots[b] = spot;
        return spots[a];
    }

    public int lacks(int volume, int a, int way) {
        if (!isVolume(volume) || !isWay(a, way)) {
            return refuse(BEYOND);
        }
        int slot = slot(a, way);
        if (!now.island.leads(slot)) {
            return refuse(NONE);
        }
        Volume changed = now.volumes[volume];
        changed.lacked ^= (1 << slot) | (1 << now.island.back(slot));
        return changed.lacksSlot(slot) ? 1 : 0;
    }

    public int says(int volume, int spot, int way, int what) {
        if (!isVolume(volume) || !isWay(spot, way) || !isWithin(what, 2)) {
            return refuse(BEYOND);
        }
        int slot = now.volumes[volume].slotAt(spot, way);
        if (!now.isSaid(volume, slot)) {
            return refuse(NONE);
        }
        return what == 0 ? now.spotSaid(volume, slot) : now.stepsSaid(volume, slot);
    }

    // ---- texts

    public int feed(long word, int n) {
        if (n < 1 || n > 8) {
            return refuse(BEYOND);
        }
        if (now.taped + n > TAPE) {
            return refuse(FULL);
        }
        for (int i = 0; i < n; i++) {
            now.tape[now.taped] = (int) (word >>> (8 * i)) & 255;
            now.taped++;
        }
        return now.taped;
    }

    public int text(int use) {
        if (!isWithin(use, USES)) {
            return refuse(BEYOND);
        }
        boolean whole = reader.readTape(now.tape, now.taped, use);
        now.taped = 0;
        if (!whole) {
            return -10 - reader.at;
        }
        now.texts[use].take(reader.code, reader.size);
        return 1;
    }

    public int untell(int use) {
        if (!isWithin(use, USES)) {
            return refuse(BEYOND);
        }
        Text text = now.texts[use];
        int was = text.isTold() ? 1 : 0;
        text.size = 0;
        return was;
    }

    // ---- walks

    public int walk(int volume, int spot, int sheet, int what) {
        if (!isVolume(volume) || !isPlace(spot) || !isSheet(sheet) || !isWithin(what, 4)) {
            return refuse(BEYOND);
        }
        Sheet row = sheets[sheet];
        if (row.isMissing()) {
            return refuse(NONE);
        }
        if (!row.areWithin(row.size, WAYS)) {
            return refuse(BEYOND);
        }
        int end = spot;
        int gone = 0;
        int paced = 0;
        for (int i = 0; i < row.size; i++) {
            int slot = now.volumes[volume].slotAt(end, row.numbers[i]);
            if (!now.isSaid(volume, slot)) {
                break;
            }
            paced += now.stepsSaid(volume, slot);
            end = now.spotSaid(volume, slot);
            gone++;
        }
        switch (what) {
            case 0:
                return end;
            case 1:
                return gone;
            case 2:
                return paced;
            default:
                return gone == row.size && end == spot ? 1 : 0;
        }
    }

    public int draws(int volume, int spot, int n) {
        if (!isVolume(volume) || !isPlace(spot) || n < 1 || n > MOST_DRAWS) {
            return refuse(BEYOND);
        }
        int end = spot;
        for (int i = 0; i < n; i++) {
            int slot = now.volumes[volume].slotAt(end, now.draw() % WAYS);
            if (now.isSaid(volume, slot)) {
                end = now.spotSaid(volume, slot);
            }
        }
        return end;
    }

    public int seed(int v) {
        int was = now.z;
        now.z = v;
        return was;
    }

    // ---- one over the other

    public int best(int a, int b, int what) {
        if (!isVolume(a) || !isVolume(b) || !isWithin(what, 3 + PLACES)) {
            return refuse(BEYOND);
        }
        overlay.lay(now, a, b);
        overlay.findBest();
        switch (what) {
            case 0:
                return overlay.leastAgainst;
            case 1:
                return overlay.mostFor;
            case 2:
                return overlay.bestTurn;
            default:
                return overlay.bestRow[what - 3];
        }
    }

    public int fits(int a, int b, int c) {
        if (!isVolume(a) || !isVolume(b) || !isWithin(c, SLOTS + 1)) {
            return refuse(BEYOND);
        }
        overlay.lay(now, a, b);
        return overlay.rowsWithin(c);
    }

    public int over(int a, int b, int turn, int sheet, int what) {
        if (!isVolume(a) || !isVolume(b) || !isWithin(turn, TURNS) || !isSheet(sheet) || !isWithin(what, 2)) {
            return refuse(BEYOND);
        }
        Sheet row = sheets[sheet];
        if (row.isMissing()) {
            return refuse(NONE);
        }
        if (!row.beginsWithAllSpots()) {
            return refuse(STATE);
        }
        overlay.lay(now, a, b);
        overlay.weigh(row.numbers, turn);
        return what == 0 ? overlay.against : overlay.inFavour;
    }

    public int boy(int place, int what) {
        if (!isPlace(place) || !isWithin(what, 3)) {
            return refuse(BEYOND);
        }
        errand.find(now, place);
        if (errand.unlike == 0) {
            return refuse(NONE);
        }
        switch (what) {
            case 0:
                return errand.unlike;
            case 1:
                return errand.gone;
            default:
                return errand.figures();
        }
    }

    public int worth(int volume) {
        return isVolume(volume) ? now.valueOf(volume) : refuse(BEYOND);
    }

    public long longer(int a, int b, int part) {
        if (!isVolume(a) || !isVolume(b) || !isWithin(part, 2)) {
            return refuse(BEYOND);
        }
        long above = now.stepsTogether(a, b);
        long below = now.stepsTogether(b, a);
        // STEPS are 1 or more, so that only two volumes without a WAY in common come to 0.
        if (above == 0 || below == 0) {
            return part;
        }
        return (part == 0 ? above : below) / commonDivisor(above, below);
    }

    public int leftOut(int volume) {
        if (!isVolume(volume)) {
            return refuse(BEYOND);
        }
        int longest = 0;
        int name = 0;
        for (int way = 0; way < WAYS; way++) {
            for (int place = 0; place < PLACES; place++) {
                int slot = slot(place, way);
                int length = now.island.lengths[slot];
                if (length > longest && !now.isSaid(volume, slot)) {
                    longest = length;
                    name = PLACES * way + place;
                }
            }
        }
        return longest == 0 ? refuse(NONE) : name;
    }

    // ---- voices, sheets, images, what is told

    public int voice(int volume, int voice, int x) {
        if (!isVolume(volume) || !isWithin(voice, Voices.VOICES)) {
            return refuse(BEYOND);
        }
        boolean ended = voices.hear(volume, now.volumes[volume], voice, x);
        return ended ? voices.answer : refuse(PARTED);
    }

    public int body(int i) {
        return isWithin(i, voices.traced) ? voices.trace[i] : refuse(NONE);
    }

    public int sheet(int sheet, int bits, int n) {
        if (!isSheet(sheet) || !Sheet.areBits(bits)) {
            return refuse(BEYOND);
        }
        if (bits != 0 && n < 0) {
            return refuse(STATE);
        }
        if (bits != 0 && n > NUMBERS) {
            return refuse(BEYOND);
        }
        sheets[sheet].begin(bits, bits == 0 ? 0 : n);
        return 1;
    }

    public int put(int sheet, int i, int v) {
        if (!isSheet(sheet)) {
            return refuse(BEYOND);
        }
        Sheet row = sheets[sheet];
        if (row.isMissing()) {
            return refuse(NONE);
        }
        if (!isWithin(i, row.size)) {
            return refuse(BEYOND);
        }
        row.numbers[i] = row.lowestBits(v);
        return 1;
    }

    public int move(int sheet, int i, int other, int j, int n) {
        if (!isSheet(sheet) || !isSheet(other)) {
            return refuse(BEYOND);
        }
        Sheet from = sheets[sheet];
        Sheet to = sheets[other];
        if (from.isMissing() || to.isMissing()) {
            return refuse(NONE);
        }
        if (from.bits != to.bits) {
            return refuse(KIND);
        }
        if (!from.reaches(i, n) || !to.reaches(j, n)) {
            return refuse(BEYOND);
        }
        System.arraycopy(from.numbers, i, to.numbers, j, n);
        return n;
    }

    public int ways(int sheet) {
        if (!isSheet(sheet)) {
            return refuse(BEYOND);
        }
        Sheet row = sheets[sheet];
        if (row.isMissing()) {
            return refuse(NONE);
        }
        int[] v = row.numbers;
        int came = 0;
        for (int i = 0; i + 3 < row.size; i += 4) {
            if (wayError(v[i], v[i + 1], v[i + 2], v[i + 3]) != 0) {
                break;
            }
            now.island.join(v[i], v[i + 1], v[i + 2], v[i + 3]);
            came++;
        }
        return came;
    }

    public int image() {
        kept.copyFrom(now);
        images++;
        return images;
    }

    public int restore() {
        if (images == 0) {
            return refuse(NONE);
        }
        now.copyFrom(kept);
        return now.island.wayCount();
    }

    public int tell(int v) {
        if (now.waits >= NUMBERS) {
            return refuse(FULL);
        }
        now.waiting[now.waits] = v;
        now.waits++;
        return now.waits;
    }

    public int check(int volume) {
        int waits = now.waits;
        now.waits = 0;
        if (!isVolume(volume)) {
            return refuse(BEYOND);
        }
        for (int i = 0; i < waits; i++) {
            int slot = now.volumes[volume].slotAt(i / WAYS, i % WAYS);
            if (now.stepsSaid(volume, slot) != now.waiting[i]) {
                return 1 + i;
            }
        }
        return 0;
    }

    public int count(int what) {
        switch (what) {
            case 0:
                return now.island.wayCount();
            case 1:
                return now.island.lengthSum();
            case 2:
                return now.taped;
            case 3:
                return now.waits;
            case 4:
                return voices.traced;
            case 5:
                return now.z;
            default:
                return refuse(BEYOND);
        }
    }

    public int told(int k) {
        return k >= 1 && k <= ERRORS ? refusals[k] : refuse(BEYOND);
    }

    // ---- what the face shares

    /** Errors are counted where they arise, since z and voices may answer any number. */
    private int refuse(int error) {
        refusals[error]++;
        return LOW - error;
    }

    /** What way() would refuse with, 0 if with nothing. */
    private int wayError(int a, int way, int b, int length) {
        if (!isWay(a, way) || !isPlace(b) || length < 1 || length > LONGEST) {
            return BEYOND;
        }
        return now.island.isFree(a, way, b) ? 0 : STATE;
    }

    private static boolean isWithin(int v, int end) {
        return v >= 0 && v < end;
    }

    private static boolean isPlace(int place) {
        return isWithin(place, PLACES);
    }

    private static boolean isWay(int place, int way) {
        return isPlace(place) && isWithin(way, WAYS);
    }

    private static boolean isVolume(int volume) {
        return isWithin(volume, VOLUMES);
    }

    private static boolean isSheet(int sheet) {
        return isWithin(sheet, SHEETS);
    }

    /** Where a PLACE (or SPOT) and a way stand in rows of all of them. */
    private static int slot(int place, int way) {
        return WAYS * place + way;
    }

    private static int held(int v, int least, int most) {
        return Math.max(least, Math.min(most, v));
    }

    /** Euclid's, of numbers above 0; its rests at least halve every two turns, so that 128 are plenty for a long. */
    private static long commonDivisor(long a, long b) {
        long divisor = a;
        long rest = b;
        for (int i = 0; i < 128 && rest != 0; i++) {
            long next = divisor % rest;
            divisor = rest;
            rest = next;
        }
        return divisor;
    }

    /** THE ISLAND: of each slot the PLACE it leads to, and the LENGTH. */
    static final class Island {
        final int[] ends = new int[SLOTS];
        final int[] lengths = new int[SLOTS];

        Island() {
            Arrays.fill(ends, NOWHERE);
        }

        boolean leads(int slot) {
            return ends[slot] != NOWHERE;
        }

        /** The slot of the same WAY from its other end; asked only of a slot that leads somewhere. */
        int back(int slot) {
            return slot(ends[slot], (slot + 2) % WAYS);
        }

        boolean isFree(int a, int way, int b) {
            return !leads(slot(a, way)) && !leads(slot(b, (way + 2) % WAYS));
        }

        void join(int a, int way, int b, int length) {
            int there = slot(a, way);
            int back = slot(b, (way + 2) % WAYS);
            ends[there] = b;
            ends[back] = a;
            lengths[there] = length;
            lengths[back] = length;
        }

        void clearSlot(int slot) {
            ends[slot] = NOWHERE;
            lengths[slot] = 0;
        }

        /** Each WAY takes two slots, one from a PLACE to itself too. */
        int wayCount() {
            int slots = 0;
            for (int end : ends) {
                slots += end == NOWHERE ? 0 : 1;
            }
            return slots / 2;
        }

        int lengthSum() {
            int sum = 0;
            for (int length : lengths) {
                sum += length;
            }
            return sum / 2;
        }

        void copyFrom(Island other) {
            System.arraycopy(other.ends, 0, ends, 0, SLOTS);
            System.arraycopy(other.lengths, 0, lengths, 0, SLOTS);
        }
    }

    /** A VOLUME: its KIND, m, ORDER and LACKS, and what follows from them alone. */
    static final class Volume {
        int kind;
        int m;
        /** A bit for each slot that it LACKS. */
        int lacked;
        /** The SPOT of each PLACE. */
        final int[] spots = new int[PLACES];

        Volume() {
            for (int place = 0; place < PLACES; place++) {
                spots[place] = place;
            }
        }

        boolean isOf(int asked) {
            int at = kind;
            for (int i = 0; i < KINDS && at >= 0; i++) {
                if (at == asked) {
                    return true;
                }
                at = ABOVE[at];
            }
            return false;
        }

        int turn() {
            switch (kind) {
                case TURNED:
                    return m % WAYS;
                case NIGHT:
                    return (m + 2) % WAYS;
                default:
                    return 0;
            }
        }

        boolean hides(int length) {
            return kind == LIED && length > 10 * m;
        }

        boolean bends(int length) {
            return kind == LIED && length <= m;
        }

        boolean lacksSlot(int slot) {
            return ((lacked >>> slot) & 1) != 0;
        }

        /** Both slots of a WAY are lacked or neither. */
        int lackedWays() {
            return Integer.bitCount(lacked) / 2;
        }

        /** The slot of THE ISLAND that a SPOT and a way of this VOLUME tell of. */
        int slotAt(int spot, int way) {
            return slot(placeAt(spot), (way + WAYS - turn()) % WAYS);
        }

        private int placeAt(int spot) {
            for (int place = 0; place < PLACES; place++) {
                if (spots[place] == spot) {
                    return place;
                }
            }
            return 0;
        }

        void copyFrom(Volume other) {
            kind = other.kind;
            m = other.m;
            lacked = other.lacked;
            System.arraycopy(other.spots, 0, spots, 0, PLACES);
        }
    }

    /**
     * A TEXT as it is worked out, each sign behind what it takes: a part of 0 or above is a NUMBER, one below 0
     * the byte of a NAME or of a sign, negated.
     */
    static final class Text {
        final int[] code = new int[TAPE];
        /** 0 if there is no TEXT; a TEXT has one part at least. */
        int size;
        private final int[] stack = new int[TAPE];

        boolean isTold() {
            return size > 0;
        }

        void take(int[] parts, int n) {
            System.arraycopy(parts, 0, code, 0, TAPE);
            size = n;
        }

        int workOut(int s, int l, int m, int v) {
            int top = -1;
            for (int i = 0; i < size; i++) {
                int part = code[i];
                if (part >= 0 || isName(-part)) {
                    top = Math.min(top + 1, TAPE - 1);
                    stack[top] = part >= 0 ? part : named(-part, s, l, m, v);
                } else if (part == -'!' && top >= 0) {
                    stack[top] = stack[top] == 0 ? 1 : 0;
                } else if (top >= 1) {
                    top--;
                    stack[top] = join(-part, stack[top], stack[top + 1]);
                }
            }
            return stack[0];
        }

        private static boolean isName(int sign) {
            return sign == 's' || sign == 'l' || sign == 'm' || sign == 'v';
        }

        private static int named(int name, int s, int l, int m, int v) {
            switch (name) {
                case 's':
                    return s;
                case 'l':
                    return l;
                case 'm':
                    return m;
                default:
                    return v;
            }
        }

        private static int join(int sign, int a, int b) {
            switch (sign) {
                case '|':
                    return a != 0 || b != 0 ? 1 : 0;
                case '&':
                    return a != 0 && b != 0 ? 1 : 0;
                case '<':
                    return a < b ? 1 : 0;
                case '=':
                    return a == b ? 1 : 0;
                case '>':
                    return a > b ? 1 : 0;
                case '+':
                    return a + b;
                case '-':
                    return a - b;
                case '*':
                    return a * b;
                case '/':
                    return b == 0 ? 0 : a / b;
                default:
                    return b == 0 ? 0 : a % b;
            }
        }
    }

    /** Reads THE TAPE as a TEXT; where it stops at a FAULT, at is the FAULT. */
    static final class TapeReader {
        private static final int NO_LEVEL = -1;
        private static final int COMPARING = 2;
        private static final int UNIT = 5;
        private static final int MOST_OPEN = 5;
        private static final int DIGITS = 4;
        private static final int NO_BYTE = -1;

        final int[] code = new int[TAPE];
        int size;
        int at;
        private final int[] bytes = new int[TAPE];
        private int end;
        private int use;
        private boolean faulty;

        boolean readTape(int[] tape, int taped, int forUse) {
            System.arraycopy(tape, 0, bytes, 0, TAPE);
            end = taped;
            use = forUse;
            at = 0;
            size = 0;
            faulty = false;
            readLevel(0, 0);
            return !faulty && at == end;
        }

        /** The levels are T, A, B, S, P by their signs, then Q. */
        private void readLevel(int level, int open) {
            if (level >= UNIT) {
                readUnit(open);
                return;
            }
            readLevel(level + 1, open);
            for (int i = 0; i < TAPE && !faulty && levelOf(next()) == level; i++) {
                int sign = next();
                at++;
                readLevel(level + 1, open);
                keep(-sign);
                if (level == COMPARING) {
                    return;
                }
            }
        }

        private void readUnit(int open) {
            int sign = next();
            if (isDigit(sign)) {
                readNumber();
            } else if (isName(sign)) {
                at++;
                keep(-sign);
            } else if (sign == '!' && open < MOST_OPEN) {
                at++;
                readUnit(open + 1);
                keep(-sign);
            } else if (sign == '(' && open < MOST_OPEN) {
                at++;
                readLevel(0, open + 1);
                readClosing();
            } else {
                faulty = true;
            }
        }

        private void readNumber() {
            int number = 0;
            for (int i = 0; i < DIGITS && isDigit(next()); i++) {
                number = 10 * number + next() - '0';
                at++;
            }
            keep(number);
        }

        private void readClosing() {
            if (faulty || next() != ')') {
                faulty = true;
                return;
            }
            at++;
        }

        private int next() {
            return at < end ? bytes[at] : NO_BYTE;
        }

        /** Every part stands for a byte of its own, so that there is room for all. */
        private void keep(int part) {
            if (size < TAPE) {
                code[size] = part;
                size++;
            }
        }

        private boolean isName(int sign) {
            return sign == 'l' || sign == 'v' || sign == (use == STEPS ? 'm' : 's');
        }

        private static boolean isDigit(int sign) {
            return sign >= '0' && sign <= '9';
        }

        private static int levelOf(int sign) {
            switch (sign) {
                case '|':
                    return 0;
                case '&':
                    return 1;
                case '<':
                case '=':
                case '>':
                    return COMPARING;
                case '+':
                case '-':
                    return 3;
                case '*':
                case '/':
                case '%':
                    return 4;
                default:
                    return NO_LEVEL;
            }
        }
    }

    /** All that an IMAGE keeps, and what VOLUMES SAY of it. */
    static final class Atlas {
        final Island island = new Island();
        final Volume[] volumes = new Volume[VOLUMES];
        final int[] tape = new int[TAPE];
        int taped;
        final Text[] texts = new Text[USES];
        final int[] waiting = new int[NUMBERS];
        int waits;
        int z = 1;

        Atlas() {
            for (int i = 0; i < VOLUMES; i++) {
                volumes[i] = new Volume();
            }
            for (int i = 0; i < USES; i++) {
                texts[i] = new Text();
            }
        }

        void remove(int slot) {
            int back = island.back(slot);
            for (Volume volume : volumes) {
                volume.lacked &= ~((1 << slot) | (1 << back));
            }
            island.clearSlot(slot);
            island.clearSlot(back);
        }

        /** Whether a VOLUME SAYS anything of a slot of THE ISLAND. */
        boolean isSaid(int v, int slot) {
            Volume volume = volumes[v];
            return island.leads(slot) && !volume.lacksSlot(slot) && !volume.hides(island.lengths[slot]);
        }

        /** STEPS that a VOLUME SAYS of a slot, 0 if it SAYS nothing. */
        int stepsSaid(int v, int slot) {
            return isSaid(v, slot) ? held(stepsOf(v, island.lengths[slot]), 1, 999) : 0;
        }

        private int stepsOf(int v, int length) {
            int m = volumes[v].m;
            switch (volumes[v].kind) {
                case OLD:
                    return length * (10 + m) / 10;
                case COPIED:
                    return length * (10 + m) / 10 + 1;
                case TOLD:
                    Text text = texts[STEPS];
                    return text.isTold() ? text.workOut(0, length, m, v) : length;
                default:
                    return length;
            }
        }

        /** The SPOT to which a VOLUME SAYS that a slot leads; asked only where it SAYS something. */
        int spotSaid(int v, int slot) {
            Volume volume = volumes[v];
            boolean bent = volume.bends(island.lengths[slot]);
            return volume.spots[bent ? slot / WAYS : island.ends[slot]];
        }

        int sayers(int slot) {
            int n = 0;
            for (int v = 0; v < VOLUMES; v++) {
                n += isSaid(v, slot) ? 1 : 0;
            }
            return n;
        }

        int leastSteps(int slot) {
            int least = 0;
            for (int v = 0; v < VOLUMES; v++) {
                int steps = stepsSaid(v, slot);
                if (steps != 0 && (least == 0 || steps < least)) {
                    least = steps;
                }
            }
            return least;
        }

        int mostSteps(int slot) {
            int most = 0;
            for (int v = 0; v < VOLUMES; v++) {
                most = Math.max(most, stepsSaid(v, slot));
            }
            return most;
        }

        /** STEPS of a VOLUME of all slots that another one SAYS, too. */
        int stepsTogether(int v, int other) {
            int sum = 0;
            for (int slot = 0; slot < SLOTS; slot++) {
                if (isSaid(other, slot)) {
                    sum += stepsSaid(v, slot);
                }
            }
            return sum;
        }

        int valueOf(int v) {
            Text text = texts[VALUE];
            int sum = 0;
            for (int slot = 0; slot < SLOTS; slot++) {
                if (isSaid(v, slot)) {
                    int steps = stepsSaid(v, slot);
                    int value = text.isTold() ? text.workOut(steps, island.lengths[slot], 0, v) : 1;
                    sum += held(value, -99, 99);
                }
            }
            return sum;
        }

        int draw() {
            z = z * 1103515245 + 12345;
            return z >>> 8;
        }

        void copyFrom(Atlas other) {
            island.copyFrom(other.island);
            for (int i = 0; i < VOLUMES; i++) {
                volumes[i].copyFrom(other.volumes[i]);
            }
            System.arraycopy(other.tape, 0, tape, 0, TAPE);
            taped = other.taped;
            for (int i = 0; i < USES; i++) {
                texts[i].take(other.texts[i].code, other.texts[i].size);
            }
            System.arraycopy(other.waiting, 0, waiting, 0, NUMBERS);
            waits = other.waits;
            z = other.z;
        }
    }

    /** One VOLUME LAID OVER another: what both SAY is laid out once, then weighed by rows and turns. */
    static final class Overlay {
        int against;
        int inFavour;
        int leastAgainst;
        int mostFor;
        int bestTurn;
        final int[] bestRow = new int[PLACES];
        private int size;
        private final int[] begins = new int[SLOTS];
        private final int[] ways = new int[SLOTS];
        private final int[] ends = new int[SLOTS];
        private final int[] below = new int[SLOTS];
        private final int[] row = new int[PLACES];

        void lay(Atlas atlas, int a, int b) {
            size = 0;
            for (int spot = 0; spot < PLACES; spot++) {
                for (int way = 0; way < WAYS; way++) {
                    below[slot(spot, way)] = endSaid(atlas, b, spot, way);
                    int end = endSaid(atlas, a, spot, way);
                    if (end != NOWHERE) {
                        begins[size] = spot;
                        ways[size] = way;
                        ends[size] = end;
                        size++;
                    }
                }
            }
        }

        private static int endSaid(Atlas atlas, int v, int spot, int way) {
            int slot = atlas.volumes[v].slotAt(spot, way);
            return atlas.isSaid(v, slot) ? atlas.spotSaid(v, slot) : NOWHERE;
        }

        /** Counts what is against and for a row of all SPOTS and a turn. */
        void weigh(int[] spots, int turn) {
            against = 0;
            inFavour = 0;
            for (int i = 0; i < size; i++) {
                int end = below[slot(spots[begins[i]], (ways[i] + turn) % WAYS)];
                if (end == NOWHERE) {
                    continue;
                }
                if (end == spots[ends[i]]) {
                    inFavour++;
                } else {
                    against++;
                }
            }
        }

        /** Turns and rows come from the least on, so that only a better one takes an earlier one's place. */
        void findBest() {
            leastAgainst = SLOTS + 1;
            mostFor = 0;
            for (int turn = 0; turn < TURNS; turn++) {
                beginRows();
                for (int i = 0; i < ROWS; i++) {
                    weigh(row, turn);
                    if (against < leastAgainst || (against == leastAgainst && inFavour > mostFor)) {
                        leastAgainst = against;
                        mostFor = inFavour;
                        bestTurn = turn;
                        System.arraycopy(row, 0, bestRow, 0, PLACES);
                    }
                    nextRow();
                }
            }
        }

        int rowsWithin(int most) {
            int n = 0;
            for (int turn = 0; turn < TURNS; turn++) {
                beginRows();
                for (int i = 0; i < ROWS; i++) {
                    weigh(row, turn);
                    n += against <= most ? 1 : 0;
                    nextRow();
                }
            }
            return n;
        }

        private void beginRows() {
            for (int i = 0; i < PLACES; i++) {
                row[i] = i;
            }
        }

        /** The least row above this one; the greatest one stays. */
        private void nextRow() {
            int grows = PLACES - 2;
            while (grows >= 0 && row[grows] > row[grows + 1]) {
                grows--;
            }
            if (grows < 0) {
                return;
            }
            int with = PLACES - 1;
            while (with > grows + 1 && row[with] < row[grows]) {
                with--;
            }
            exchange(grows, with);
            for (int i = grows + 1, j = PLACES - 1; i < j; i++, j--) {
                exchange(i, j);
            }
        }

        private void exchange(int i, int j) {
            int spot = row[i];
            row[i] = row[j];
            row[j] = spot;
        }
    }

    /** The search for BOY. */
    static final class Errand {
        private static final int MOST_WAYS = 3;

        int unlike;
        int gone;
        private int bestRow;
        private final int[] steps = new int[VOLUMES * SLOTS];
        /** STEPS of a row by each VOLUME, 0 if it SAYS nothing of it. */
        private final int[] sums = new int[VOLUMES];

        /** Shorter and lesser rows come first, so that only a better one takes an earlier one's place. */
        void find(Atlas atlas, int place) {
            for (int v = 0; v < VOLUMES; v++) {
                for (int slot = 0; slot < SLOTS; slot++) {
                    steps[v * SLOTS + slot] = atlas.stepsSaid(v, slot);
                }
            }
            unlike = 0;
            for (int n = 1; n <= MOST_WAYS; n++) {
                for (int row = 0; row < (1 << (2 * n)); row++) {
                    int things = unlikeThings(atlas.island, place, n, row);
                    if (things > unlike) {
                        unlike = things;
                        gone = n;
                        bestRow = row;
                    }
                }
            }
        }

        /** 0 if the row can't be gone. */
        private int unlikeThings(Island island, int place, int n, int row) {
            Arrays.fill(sums, 0);
            int at = place;
            for (int i = 0; i < n; i++) {
                int slot = slot(at, wayOf(row, n, i));
                if (!island.leads(slot)) {
                    return 0;
                }
                addSteps(slot, i == 0);
                at = island.ends[slot];
            }
            return unlikeSums();
        }

        private void addSteps(int slot, boolean first) {
            for (int v = 0; v < VOLUMES; v++) {
                int said = steps[v * SLOTS + slot];
                boolean silent = said == 0 || (!first && sums[v] == 0);
                sums[v] = silent ? 0 : sums[v] + said;
            }
        }

        private int unlikeSums() {
            int n = 0;
            for (int v = 0; v < VOLUMES; v++) {
                boolean isNew = true;
                for (int earlier = 0; earlier < v; earlier++) {
                    isNew = isNew && sums[earlier] != sums[v];
                }
                n += isNew ? 1 : 0;
            }
            return n;
        }

        /** A row holds its ways two bits each, the first one highest, so that rows of one length are in order. */
        private static int wayOf(int row, int n, int i) {
            return (row >> (2 * (n - 1 - i))) & 3;
        }

        int figures() {
            int number = 0;
            for (int i = 0; i < gone; i++) {
                number = 10 * number + wayOf(bestRow, gone, i) + 1;
            }
            return number;
        }
    }

    /** VOICES and THE TRACE. */
    static final class Voices {
        static final int VOICES = 4;
        private static final int READS = 0;
        private static final int PACES = 1;
        private static final int SELLS = 2;
        private static final int PARTS = 3;
        /** Of each KIND the BODIES for the four voices, 0 where it has none of its own. */
        private static final int[] BODIES = {
            10, 11, 12, 13,
            20, 0, 0, 21,
            0, 30, 0, 0,
            0, 0, 40, 0,
            50, 0, 51, 0,
            0, 60, 0, 0,
            70, 71, 0, 0
        };
        private static final int TRACED = 30;
        /** The BODIES call one another some six deep. */
        private static final int DEEPEST = 30;

        int answer;
        final int[] trace = new int[TRACED];
        int traced;
        private boolean parted;
        private int k;
        private int m;
        private int kind;

        /** Whether it came to an end; one that PARTED has no answer, but THE TRACE up to the BODY that did. */
        boolean hear(int number, Volume volume, int voice, int x) {
            k = number;
            m = volume.m;
            kind = volume.kind;
            traced = 0;
            parted = false;
            answer = speak(kind, voice, x, 0);
            return !parted;
        }

        /** The voice as the KIND named, or the next one above that has a BODY for it, speaks it. */
        private int speak(int from, int voice, int x, int depth) {
            int owner = ownerFrom(from, voice);
            if (owner < 0 || depth > DEEPEST || parted) {
                return 0;
            }
            int body = BODIES[VOICES * owner + voice];
            int above = ABOVE[owner];
            int deeper = depth + 1;
            begin(body);
            switch (body) {
                case 10:
                    return x + k;
                case 11:
                    return speak(kind, READS, x, deeper) * 2;
                case 12:
                    return speak(kind, PACES, x, deeper) - m;
                case 13:
                    return part(x);
                case 20:
                    return speak(above, READS, x, deeper) - 4;
                case 21:
                    return speak(above, PARTS, x, deeper) + speak(kind, PACES, 1, deeper);
                case 30:
                    return 0 - speak(above, PACES, x, deeper);
                case 40:
                    return speak(above, SELLS, x / 2, deeper);
                case 50:
                    return speak(above, READS, x, deeper) * 3;
                case 51:
                    return speak(above, SELLS, x, deeper) ^ k;
                case 60:
                    return speak(above, PACES, x + 1, deeper);
                case 70:
                    return 9;
                default:
                    return speak(above, PACES, x, deeper) + m;
            }
        }

        private static int ownerFrom(int from, int voice) {
            int owner = from;
            for (int i = 0; i < KINDS && owner >= 0; i++) {
                if (BODIES[VOICES * owner + voice] != 0) {
                    return owner;
                }
                owner = ABOVE[owner];
            }
            return -1;
        }

        private void begin(int body) {
            if (traced < TRACED) {
                trace[traced] = body;
                traced++;
            }
        }

        private int part(int x) {
            int divisor = m - k;
            if (divisor == 0) {
                parted = true;
                return 0;
            }
            return x / divisor;
        }
    }

    /** A SHEET; one of 0 bits is missing. */
    static final class Sheet {
        int bits;
        int size;
        final int[] numbers = new int[NUMBERS];

        boolean isMissing() {
            return bits == 0;
        }

        static boolean areBits(int bits) {
            return bits == 0 || bits == 8 || bits == 16 || bits == 32;
        }

        void begin(int newBits, int n) {
            bits = newBits;
            size = n;
            Arrays.fill(numbers, 0);
        }

        int lowestBits(int v) {
            switch (bits) {
                case 8:
                    return (byte) v;
                case 16:
                    return (short) v;
                default:
                    return v;
            }
        }

        /** Whether n numbers stand from number i on; asked so that no sum can wrap. */
        boolean reaches(int i, int n) {
            return n >= 0 && i >= 0 && i <= size && n <= size - i;
        }

        boolean areWithin(int n, int end) {
            for (int i = 0; i < n; i++) {
                if (!isWithin(numbers[i], end)) {
                    return false;
                }
            }
            return true;
        }

        boolean beginsWithAllSpots() {
            if (size < PLACES || !areWithin(PLACES, PLACES)) {
                return false;
            }
            int seen = 0;
            for (int i = 0; i < PLACES; i++) {
                seen |= 1 << numbers[i];
            }
            return seen == (1 << PLACES) - 1;
        }
    }
}

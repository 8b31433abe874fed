import java.util.ArrayList;
import java.util.List;
import java.util.function.Supplier;

/**
 * All that can be seen of an object but for what told() tells, as answers in a fixed order. Much of it is seen
 * only by acts that change the object, so that a look takes objects made anew, all in the same state.
 */
final class Look {
    private final List<Long> answers = new ArrayList<>();
    private final Supplier<BlindMaps> made;

    private Look(Supplier<BlindMaps> made) {
        this.made = made;
    }

    static Look at(Supplier<BlindMaps> made) {
        Look look = new Look(made);
        look.seeTrace();
        for (int sheet = 0; sheet < 4; sheet++) {
            look.seeSheet(sheet);
        }
        look.see(made.get().image());
        look.seeAtlas(made);
        look.see(made.get().restore());
        look.seeAtlas(() -> {
            BlindMaps x = made.get();
            x.restore();
            return x;
        });
        return look;
    }

    boolean isLike(Look other) {
        return answers.equals(other.answers);
    }

    String firstUnlike(Look other) {
        for (int i = 0; i < answers.size(); i++) {
            if (!answers.get(i).equals(other.answers.get(i))) {
                return "look " + i + " from " + other.answers.get(i) + " to " + answers.get(i);
            }
        }
        return "nothing";
    }

    private void see(long answer) {
        answers.add(answer);
    }

    private void seeTrace() {
        BlindMaps x = made.get();
        see(x.count(4));
        for (int i = 0; i < 30; i++) {
            see(x.body(i));
        }
    }

    /** How many numbers, of which bits, and each as a LENGTH of a WAY, or else as a PLACE: no more can be seen. */
    private void seeSheet(int sheet) {
        BlindMaps x = made.get();
        for (int slot = 0; slot < 24; slot++) {
            x.blast(slot / 4, slot % 4);
        }
        int size = 24;
        while (size >= 0 && x.move(sheet, 0, sheet, 0, size) != size) {
            size--;
        }
        see(size);
        int other = (sheet + 1) % 4;
        for (int bits = 8; bits <= 32 && size >= 0; bits *= 2) {
            x.sheet(other, bits, 4);
            boolean alike = x.move(sheet, 0, other, 0, 0) == 0;
            see(alike ? 1 : 0);
            for (int i = 0; i < size && alike; i++) {
                seeNumber(x, sheet, i, other, bits);
            }
        }
    }

    private void seeNumber(BlindMaps x, int sheet, int i, int other, int bits) {
        x.sheet(other, bits, 4);
        x.move(sheet, i, other, 3, 1);
        see(x.ways(other));
        see(x.blast(0, 0));
        x.sheet(other, bits, 4);
        x.move(sheet, i, other, 0, 1);
        x.put(other, 3, 1);
        see(x.ways(other));
        for (int place = 0; place < 6; place++) {
            see(x.blast(place, 0));
        }
    }

    /** What an IMAGE keeps. */
    private void seeAtlas(Supplier<BlindMaps> atlas) {
        BlindMaps x = atlas.get();
        for (int what : new int[] {0, 1, 2, 3, 5}) {
            see(x.count(what));
        }
        for (int slot = 0; slot < 24; slot++) {
            for (int what = 0; what < 5; what++) {
                see(x.wayIs(slot / 4, slot % 4, what));
            }
        }
        for (int v = 0; v < 4; v++) {
            for (int what = 0; what < 10; what++) {
                see(x.volumeIs(v, what));
            }
            seeSaid(x, v);
        }
        for (int v = 0; v < 4; v++) {
            see(atlas.get().check(v));
        }
        for (int use = 0; use < 2; use++) {
            see(atlas.get().untell(use));
            seeTexts(atlas.get());
            BlindMaps read = atlas.get();
            see(read.text(use));
            seeTexts(read);
        }
    }

    private void seeSaid(BlindMaps x, int v) {
        for (int slot = 0; slot < 24; slot++) {
            see(x.says(v, slot / 4, slot % 4, 0));
            see(x.says(v, slot / 4, slot % 4, 1));
        }
        see(x.worth(v));
    }

    /** By a VOLUME that is TOLD, and by WAYS that may have come already. */
    private void seeTexts(BlindMaps x) {
        x.volume(0, 67);
        x.way(0, 0, 1, 40);
        x.way(0, 1, 1, 7);
        x.way(2, 0, 3, 1);
        seeSaid(x, 0);
        seeSaid(x, 1);
    }
}

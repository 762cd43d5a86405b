import java.util.ArrayList;
import java.util.List;
import java.util.function.Consumer;
import java.util.function.Supplier;

/** Objects at the edges that the document names, and what has to be left of them behind a call. */
final class Edges {
    static final Class<IndexOutOfBoundsException> INDEX = IndexOutOfBoundsException.class;
    static final Class<IllegalArgumentException> ARGUMENT = IllegalArgumentException.class;
    static final Class<IllegalStateException> STATE = IllegalStateException.class;
    static final int[] AT_FIRST = {2, 60, 12, 0, 0, 3, 2, 2};
    static final int[] LEAST = {1, 0, 0, 0, 0, 0, 0, 0};
    static final int[] MOST = {9, 200, 200, 1, 2, 9, 20, 20};

    private Edges() {
    }

    /** What is outside of least to most: just so, as far as an int goes, and what looks inside if it is cut short. */
    static int[] outside(int least, int most) {
        return new int[] {least - 1, most + 1, Integer.MIN_VALUE, Integer.MAX_VALUE, least + (1 << 8),
            least + (1 << 16), least + (1 << 31)};
    }

    static String times(int times, char sign) {
        return String.valueOf(sign).repeat(times);
    }

    /** Forty letters, typed. */
    static String forty(char letter) {
        return times(16, letter) + "/" + times(16, letter) + "/" + times(8, letter);
    }

    /** Both texts with their forty letters, in the same cells. */
    static TextMorph full() {
        return Check.of(forty('a'), forty('b'));
    }

    /** Both texts, other settings than at first, as many saved states as there can be, and a buffer. */
    static TextMorph busy() {
        TextMorph x = Check.of("abc/.d.e//xyz", ".cab//e.d");
        x.set(0, 3);
        x.set(5, 1);
        x.set(4, 2);
        x.put(0, 4, 15, 'q');
        x.put(1, 0, 0, 'r');
        x.swap();
        Check.type(x, "k/l.!");
        return x;
    }

    static TextMorph withSetting(TextMorph x, int... settings) {
        for (int i = 0; i < settings.length; i += 2) {
            x.set(settings[i], settings[i + 1]);
        }
        return x;
    }

    static TextMorph withBuffer(TextMorph x, String buffer) {
        x.clearBuffer();
        Check.type(x, buffer);
        return x;
    }

    /** The digest of an object, then those of all states that undo brings back: whatever later calls can tell. */
    static List<Long> whole(TextMorph x) {
        List<Long> digests = new ArrayList<>();
        digests.add(x.digest());
        for (int saved = x.count(12); saved > 0; saved--) {
            x.undo();
            digests.add(x.digest());
        }
        return digests;
    }

    /** The call is answered, and of two equal objects the one that was asked is still like the other. */
    static void leaves(String call, Supplier<TextMorph> made, Consumer<TextMorph> called) {
        TextMorph asked = made.get();
        called.accept(asked);
        Check.same(call + " leaves everything", whole(asked).toString(), whole(made.get()).toString());
    }

    /** Exactly this exception is due, and nothing is changed. */
    static void refused(String call, Class<? extends RuntimeException> due, Supplier<TextMorph> made,
            Consumer<TextMorph> called) {
        leaves(call, made, x -> {
            String got = "no exception";
            try {
                called.accept(x);
            } catch (RuntimeException e) {
                got = e.getClass().getName();
            }
            Check.same(call + " throws", got, due.getName());
        });
    }

    /** Both texts and the settings: what a saved state has. */
    static String stateOf(TextMorph x) {
        StringBuilder all = new StringBuilder();
        for (int text = 0; text < 2; text++) {
            for (int i = 0; i < 3 * x.count(1 + text); i++) {
                all.append(x.letter(text, i / 3, i % 3)).append(' ');
            }
            all.append("| ");
        }
        for (int setting = 0; setting < 8; setting++) {
            all.append(x.setting(setting)).append(' ');
        }
        return all.toString();
    }

    /** The state that there is, and all that undo brings back, the latest first. */
    static List<String> states(TextMorph x) {
        List<String> states = new ArrayList<>();
        states.add(stateOf(x));
        for (int saved = x.count(12); saved > 0; saved--) {
            Check.same("undo leaves", x.undo(), saved - 1);
            states.add(stateOf(x));
        }
        return states;
    }

    /** The call saves one state, that from before it, and drops the oldest one if there were six. */
    static void undoable(String call, Supplier<TextMorph> made, Consumer<TextMorph> called) {
        List<String> due = states(made.get());
        due = due.subList(0, Math.min(6, due.size()));
        TextMorph x = made.get();
        called.accept(x);
        List<String> got = states(x);
        Check.same(call + " is undoable", got.subList(1, got.size()).toString(), due.toString());
    }

    /** What a frame shows, cell by cell. */
    static String cells(TextMorph x, int frame) {
        StringBuilder all = new StringBuilder();
        for (int cell = 0; cell < 80; cell++) {
            all.append((char) x.at(frame, cell / 16, cell % 16));
        }
        return all.toString();
    }

    static void film(String name, TextMorph x, String... frames) {
        Check.same(name + " frames", x.count(0), frames.length);
        for (int i = 0; i < frames.length && i < x.count(0); i++) {
            Check.same(name + " frame " + i, Check.picture(x, i), frames[i]);
        }
    }

    static void places(String name, TextMorph x, int piece, int from, int... due) {
        for (int i = 0; i < due.length; i++) {
            Check.same(name + " place of " + piece + " in " + (from + i), x.place(from + i, piece), due[i]);
        }
    }

    static void way(String name, TextMorph x, int piece, int steps, int heldIn, int since) {
        Check.same(name + " steps of " + piece, x.way(piece, 0), steps);
        Check.same(name + " held frames of " + piece, x.way(piece, 1), heldIn);
        Check.same(name + " first frame of " + piece, x.way(piece, 2), since);
    }

    static void frame(String name, TextMorph x, int frame, int... due) {
        for (int what = 0; what < due.length; what++) {
            Check.same(name + " frame " + frame + " " + what, x.frame(frame, what), due[what]);
        }
    }

    static void counts(String name, TextMorph x, int... due) {
        for (int what = 0; what < due.length; what++) {
            Check.same(name + " count " + what, x.count(what), due[what]);
        }
    }

    /** The digest as the document tells it, put together from the answers of the other calls. */
    static long digestByTheFace(TextMorph x, String buffer) {
        List<Long> values = new ArrayList<>();
        for (int what = 0; what <= 12; what++) {
            values.add((long) x.count(what));
        }
        for (int setting = 0; setting <= 7; setting++) {
            values.add((long) x.setting(setting));
        }
        for (int i = 0; i < 6 * x.count(1); i++) {
            values.add((long) x.letter(0, i / 6, i % 6));
        }
        for (int i = 0; i < 6 * x.count(2); i++) {
            values.add((long) x.letter(1, i / 6, i % 6));
        }
        for (int i = 0; i < 3 * x.count(1); i++) {
            values.add((long) x.way(i / 3, i % 3));
        }
        for (int i = 0; i < 5 * x.count(0); i++) {
            values.add((long) x.frame(i / 5, i % 5));
        }
        for (int cell = 0; cell < 80; cell++) {
            values.add((long) x.at((x.count(0) - 1) / 2, cell / 16, cell % 16));
        }
        values.add((long) x.best());
        values.add(Double.doubleToLongBits(x.likeness()));
        values.add((long) buffer.length());
        for (int i = 0; i < buffer.length(); i++) {
            values.add((long) buffer.charAt(i));
        }
        long hash = 2111;
        for (long v : values) {
            hash = 31 * hash + v;
        }
        return hash;
    }
}

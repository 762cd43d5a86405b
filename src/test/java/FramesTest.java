/** Promises 12 to 15: way, at, place, frame, and what the document says of ways and frames. */
public final class FramesTest {
    private static final Class<IndexOutOfBoundsException> INDEX = IndexOutOfBoundsException.class;
    private static final Class<IllegalArgumentException> ARGUMENT = IllegalArgumentException.class;

    private FramesTest() {
    }

    public static void main(String[] args) {
        holdsAndVanishing();
        appearing();
        changing();
        ways();
        held();
        passingPiecesAtTheirGoals();
        lowestNumberIsShown();
        goneOnesHoldNobody();
        orderOfSteps();
        wrongOnes();
        Check.end();
    }

    private static void film(String name, TextMorph x, String... frames) {
        Check.same(name + " frames", x.count(0), frames.length);
        for (int i = 0; i < frames.length && i < x.count(0); i++) {
            Check.same(name + " frame " + i, Check.picture(x, i), frames[i]);
        }
    }

    private static void way(String name, TextMorph x, int piece, int steps, int heldIn, int since) {
        Check.same(name + " steps of " + piece, x.way(piece, 0), steps);
        Check.same(name + " held frames of " + piece, x.way(piece, 1), heldIn);
        Check.same(name + " first frame of " + piece, x.way(piece, 2), since);
    }

    private static void frame(String name, TextMorph x, int frame, int... due) {
        for (int what = 0; what < due.length; what++) {
            Check.same(name + " frame " + frame + " " + what, x.frame(frame, what), due[what]);
        }
    }

    private static void places(String name, TextMorph x, int piece, int from, int... due) {
        for (int i = 0; i < due.length; i++) {
            Check.same(name + " place " + (from + i), x.place(from + i, piece), due[i]);
        }
    }

    private static void holdsAndVanishing() {
        TextMorph x = Check.of("ab/c", "");
        film("vanishing", x, "ab/c", "ab/c", "ab/c", "ab", "a", "", "", "");
        way("vanishing", x, 2, 0, 0, 3);
        way("vanishing", x, 1, 0, 0, 4);
        way("vanishing", x, 0, 0, 0, 5);
        places("vanishing", x, 2, 0, 16, 16, 16, -1, -1, -1, -1, -1);
        places("vanishing", x, 0, 3, 0, 0, -1);
        frame("vanishing", x, 0, 3, 0, 0, 0, 3);
        frame("vanishing", x, 2, 3, 0, 0, 0, 3);
        frame("vanishing", x, 3, 2, 1, 0, 0, 2);
        frame("vanishing", x, 5, 0, 1, 0, 0, 0);
        frame("vanishing", x, 7, 0, 0, 0, 0, 0);
        x.set(6, 0);
        x.set(7, 0);
        film("no holds", x, "ab/c", "ab", "a", "");
        way("no holds", x, 2, 0, 0, 1);
    }

    private static void appearing() {
        TextMorph x = Check.of("", "ab/c");
        film("appearing", x, "", "", "", "a", "ab", "ab/c", "ab/c", "ab/c");
        frame("appearing", x, 3, 1, 1, 0, 0, 0);
        frame("appearing", x, 7, 3, 0, 0, 0, 0);
        // A paired letter is there at once, the others behind the moving.
        film("both", Check.of("b", "abc"), "b", "b", "b", ".b", "ab", "abc", "abc", "abc");
    }

    private static void changing() {
        TextMorph x = Check.of("x", "y");
        film("at its goal", x, "x", "x", "x", "y", "y", "y");
        way("at its goal", x, 0, 0, 0, 0);
        frame("at its goal", x, 3, 1, 1, 0, 0, 1);
        x.set(6, 0);
        x.set(7, 0);
        film("at its goal, no holds", x, "x", "y");
        x = Check.of("x", "..y");
        film("on the way", x, "x", "x", "x", ".x", "..y", "..y", "..y");
        way("on the way", x, 0, 2, 0, 4);
        frame("on the way", x, 4, 1, 2, 0, 0, 1);
        // x is at its goal: it changes in the first frame of moving, z on arrival.
        film("both", Check.of("x..z", "y....w"), "x..z", "x..z", "x..z", "y...z", "y....w", "y....w", "y....w");
        Check.same("nothing to do", Check.of("a", "a").count(8), 0);
    }

    private static void ways() {
        TextMorph x = Check.of("a", "//...a");
        x.set(6, 0);
        places("way 0", x, 0, 0, 0, 1, 2, 3, 19, 35, 35, 35);
        x.set(4, 1);
        places("way 1", x, 0, 0, 0, 16, 32, 33, 34, 35, 35, 35);
        x.set(4, 2);
        places("way 2", x, 0, 0, 0, 1, 2, 18, 19, 35, 35, 35);
        way("way 2", x, 0, 5, 0, 5);
        // The weight of rows does not count in the way, only in the distance.
        x.set(0, 9);
        places("way 2", x, 0, 0, 0, 1, 2, 18, 19, 35, 35, 35);
        x.swap();
        places("way 2 back", x, 0, 0, 35, 34, 33, 17, 16, 0, 0, 0);
        x.set(4, 1);
        places("way 1 back", x, 0, 0, 35, 19, 3, 2, 1, 0, 0, 0);
        x.set(4, 0);
        places("way 0 back", x, 0, 0, 35, 34, 33, 32, 16, 0, 0, 0);
    }

    private static void held() {
        TextMorph x = Check.of("ab", "ba");
        film("exchange", x, "ab", "ab", "ab", "ab", "ab", "ab", "ba", "ba", "ba");
        way("exchange", x, 0, 1, 3, 6);
        way("exchange", x, 1, 1, 3, 6);
        frame("exchange", x, 2, 2, 0, 0, 0, 2);
        frame("exchange", x, 3, 2, 0, 2, 0, 2);
        frame("exchange", x, 5, 2, 0, 2, 0, 2);
        frame("exchange", x, 6, 2, 2, 0, 0, 2);
        x.set(5, 0);
        film("no patience", x, "ab", "ab", "ab", "ba", "ba", "ba");
        way("no patience", x, 0, 1, 0, 3);
        x.set(5, 9);
        Check.same("patience 9", x.count(8), 10);
        Check.same("patience 9, held", x.count(11), 18);
        x.set(5, 1);
        Check.same("patience 1", x.count(8), 2);
    }

    private static void passingPiecesAtTheirGoals() {
        TextMorph x = Check.of("abc", ".bca");
        String start = "abc";
        film("passing", x, start, start, start, start, start, start, ".ac", ".ac", ".ac", ".ac", ".ba", ".bca",
                ".bca", ".bca");
        way("passing", x, 0, 3, 6, 11);
        way("passing", x, 1, 0, 0, 0);
        frame("passing", x, 5, 3, 0, 1, 0, 3);
        frame("passing", x, 6, 2, 2, 0, 1, 3);
        frame("passing", x, 7, 2, 0, 1, 1, 3);
        frame("passing", x, 10, 2, 2, 0, 1, 3);
        frame("passing", x, 11, 3, 2, 0, 0, 3);
        places("passing", x, 0, 5, 0, 1, 1, 1, 1, 2, 3, 3, 3);
    }

    private static void lowestNumberIsShown() {
        TextMorph x = Check.of(".ab", "ba");
        film("below", x, ".ab", ".ab", ".ab", ".ab", ".ab", ".ab", ".a", "ba", "ba", "ba");
        frame("below", x, 6, 1, 1, 0, 1, 2);
        places("below", x, 1, 5, 2, 1, 0);
    }

    private static void goneOnesHoldNobody() {
        TextMorph x = Check.of("ax", "..a");
        film("gone", x, "ax", "ax", "ax", "a", ".a", "..a", "..a", "..a");
        way("gone", x, 0, 2, 0, 5);
        frame("gone", x, 3, 1, 1, 0, 0, 1);
    }

    private static void orderOfSteps() {
        TextMorph x = Check.of("ab", ".ab");
        film("to the right", x, "ab", "ab", "ab", "a.b", ".ab", ".ab", ".ab");
        way("to the right", x, 0, 1, 1, 4);
        way("to the right", x, 1, 1, 0, 3);
        film("to the left", Check.of(".ab", "ab"), ".ab", ".ab", ".ab", "ab", "ab", "ab");
    }

    private static void wrongOnes() {
        TextMorph x = Check.of("ab", "c");
        int frames = x.count(0);
        for (int piece : new int[] {-1, 2, 40, Integer.MIN_VALUE, Integer.MAX_VALUE}) {
            Check.refused("way", INDEX, x, () -> x.way(piece, 0));
            Check.refused("way, what 3", INDEX, x, () -> x.way(piece, 3));
            Check.refused("place", INDEX, x, () -> x.place(0, piece));
        }
        Check.refused("way, what 3", ARGUMENT, x, () -> x.way(0, 3));
        Check.refused("way, what -1", ARGUMENT, x, () -> x.way(0, -1));
        for (int frame : new int[] {-1, frames, Integer.MIN_VALUE, Integer.MAX_VALUE}) {
            Check.refused("at", INDEX, x, () -> x.at(frame, 0, 0));
            Check.refused("place", INDEX, x, () -> x.place(frame, 0));
            Check.refused("frame", INDEX, x, () -> x.frame(frame, 0));
            Check.refused("frame, what 5", INDEX, x, () -> x.frame(frame, 5));
        }
        int[][] outside = {{-1, 0}, {5, 0}, {0, -1}, {0, 16}};
        for (int[] o : outside) {
            Check.refused("at", INDEX, x, () -> x.at(0, o[0], o[1]));
        }
        Check.refused("frame, what 5", ARGUMENT, x, () -> x.frame(0, 5));
        Check.refused("frame, what -1", ARGUMENT, x, () -> x.frame(0, -1));
        Check.same("last frame", x.at(frames - 1, 0, 0), 'c');
        Check.same("last cell", x.at(frames - 1, 4, 15), 32);
    }
}

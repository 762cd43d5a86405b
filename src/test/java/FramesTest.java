/** Promises 12 to 15: way, at, place, frame, and what the document says of ways and frames. */
public final class FramesTest {
    private FramesTest() {
    }

    public static void main(String[] args) {
        holdsAndVanishing();
        appearing();
        changing();
        ways();
        held();
        passingPiecesAtTheirGoals();
        lowestNumberIsShown();
        goneOnesHoldNobody();
        orderOfSteps();
        wrongOnes();
        Check.end();
    }

    private static void holdsAndVanishing() {
        TextMorph x = Check.of("ab/c", "");
        Edges.film("vanishing", x, "ab/c", "ab/c", "ab/c", "ab", "a", "", "", "");
        Edges.way("vanishing", x, 2, 0, 0, 3);
        Edges.way("vanishing", x, 1, 0, 0, 4);
        Edges.way("vanishing", x, 0, 0, 0, 5);
        Edges.places("vanishing", x, 2, 0, 16, 16, 16, -1, -1, -1, -1, -1);
        Edges.places("vanishing", x, 0, 3, 0, 0, -1);
        Edges.frame("vanishing", x, 0, 3, 0, 0, 0, 3);
        Edges.frame("vanishing", x, 2, 3, 0, 0, 0, 3);
        Edges.frame("vanishing", x, 3, 2, 1, 0, 0, 2);
        Edges.frame("vanishing", x, 5, 0, 1, 0, 0, 0);
        Edges.frame("vanishing", x, 7, 0, 0, 0, 0, 0);
        x.set(6, 0);
        x.set(7, 0);
        Edges.film("no holds", x, "ab/c", "ab", "a", "");
        Edges.way("no holds", x, 2, 0, 0, 1);
    }

    private static void appearing() {
        TextMorph x = Check.of("", "ab/c");
        Edges.film("appearing", x, "", "", "", "a", "ab", "ab/c", "ab/c", "ab/c");
        Edges.frame("appearing", x, 3, 1, 1, 0, 0, 0);
        Edges.frame("appearing", x, 7, 3, 0, 0, 0, 0);
        // A paired letter is there at once, the others behind the moving.
        Edges.film("both", Check.of("b", "abc"), "b", "b", "b", ".b", "ab", "abc", "abc", "abc");
    }

    private static void changing() {
        TextMorph x = Check.of("x", "y");
        Edges.film("at its goal", x, "x", "x", "x", "y", "y", "y");
        Edges.way("at its goal", x, 0, 0, 0, 0);
        Edges.frame("at its goal", x, 3, 1, 1, 0, 0, 1);
        x.set(6, 0);
        x.set(7, 0);
        Edges.film("at its goal, no holds", x, "x", "y");
        x = Check.of("x", "..y");
        Edges.film("on the way", x, "x", "x", "x", ".x", "..y", "..y", "..y");
        Edges.way("on the way", x, 0, 2, 0, 4);
        Edges.frame("on the way", x, 4, 1, 2, 0, 0, 1);
        // x is at its goal: it changes in the first frame of moving, z on arrival.
        Edges.film("both", Check.of("x..z", "y....w"), "x..z", "x..z", "x..z", "y...z", "y....w", "y....w", "y....w");
        Check.same("nothing to do", Check.of("a", "a").count(8), 0);
    }

    private static void ways() {
        TextMorph x = Check.of("a", "//...a");
        x.set(6, 0);
        Edges.places("way 0", x, 0, 0, 0, 1, 2, 3, 19, 35, 35, 35);
        x.set(4, 1);
        Edges.places("way 1", x, 0, 0, 0, 16, 32, 33, 34, 35, 35, 35);
        x.set(4, 2);
        Edges.places("way 2", x, 0, 0, 0, 1, 2, 18, 19, 35, 35, 35);
        Edges.way("way 2", x, 0, 5, 0, 5);
        // The weight of rows does not count in the way, only in the distance.
        x.set(0, 9);
        Edges.places("way 2", x, 0, 0, 0, 1, 2, 18, 19, 35, 35, 35);
        x.swap();
        Edges.places("way 2 back", x, 0, 0, 35, 34, 33, 17, 16, 0, 0, 0);
        x.set(4, 1);
        Edges.places("way 1 back", x, 0, 0, 35, 19, 3, 2, 1, 0, 0, 0);
        x.set(4, 0);
        Edges.places("way 0 back", x, 0, 0, 35, 34, 33, 32, 16, 0, 0, 0);
    }

    private static void held() {
        TextMorph x = Check.of("ab", "ba");
        Edges.film("exchange", x, "ab", "ab", "ab", "ab", "ab", "ab", "ba", "ba", "ba");
        Edges.way("exchange", x, 0, 1, 3, 6);
        Edges.way("exchange", x, 1, 1, 3, 6);
        Edges.frame("exchange", x, 2, 2, 0, 0, 0, 2);
        Edges.frame("exchange", x, 3, 2, 0, 2, 0, 2);
        Edges.frame("exchange", x, 5, 2, 0, 2, 0, 2);
        Edges.frame("exchange", x, 6, 2, 2, 0, 0, 2);
        x.set(5, 0);
        Edges.film("no patience", x, "ab", "ab", "ab", "ba", "ba", "ba");
        Edges.way("no patience", x, 0, 1, 0, 3);
        x.set(5, 9);
        Check.same("patience 9", x.count(8), 10);
        Check.same("patience 9, held", x.count(11), 18);
        x.set(5, 1);
        Check.same("patience 1", x.count(8), 2);
    }

    private static void passingPiecesAtTheirGoals() {
        TextMorph x = Check.of("abc", ".bca");
        String start = "abc";
        Edges.film("passing", x, start, start, start, start, start, start, ".ac", ".ac", ".ac", ".ac", ".ba", ".bca",
                ".bca", ".bca");
        Edges.way("passing", x, 0, 3, 6, 11);
        Edges.way("passing", x, 1, 0, 0, 0);
        Edges.frame("passing", x, 5, 3, 0, 1, 0, 3);
        Edges.frame("passing", x, 6, 2, 2, 0, 1, 3);
        Edges.frame("passing", x, 7, 2, 0, 1, 1, 3);
        Edges.frame("passing", x, 10, 2, 2, 0, 1, 3);
        Edges.frame("passing", x, 11, 3, 2, 0, 0, 3);
        Edges.places("passing", x, 0, 5, 0, 1, 1, 1, 1, 2, 3, 3, 3);
    }

    private static void lowestNumberIsShown() {
        TextMorph x = Check.of(".ab", "ba");
        Edges.film("below", x, ".ab", ".ab", ".ab", ".ab", ".ab", ".ab", ".a", "ba", "ba", "ba");
        Edges.frame("below", x, 6, 1, 1, 0, 1, 2);
        Edges.places("below", x, 1, 5, 2, 1, 0);
    }

    private static void goneOnesHoldNobody() {
        TextMorph x = Check.of("ax", "..a");
        Edges.film("gone", x, "ax", "ax", "ax", "a", ".a", "..a", "..a", "..a");
        Edges.way("gone", x, 0, 2, 0, 5);
        Edges.frame("gone", x, 3, 1, 1, 0, 0, 1);
    }

    private static void orderOfSteps() {
        TextMorph x = Check.of("ab", ".ab");
        Edges.film("to the right", x, "ab", "ab", "ab", "a.b", ".ab", ".ab", ".ab");
        Edges.way("to the right", x, 0, 1, 1, 4);
        Edges.way("to the right", x, 1, 1, 0, 3);
        Edges.film("to the left", Check.of(".ab", "ab"), ".ab", ".ab", ".ab", "ab", "ab", "ab");
    }

    private static void wrongOnes() {
        TextMorph x = Check.of("ab", "c");
        int frames = x.count(0);
        for (int piece : new int[] {-1, 2, 40, Integer.MIN_VALUE, Integer.MAX_VALUE}) {
            Check.refused("way", Edges.INDEX, x, () -> x.way(piece, 0));
            Check.refused("way, what 3", Edges.INDEX, x, () -> x.way(piece, 3));
            Check.refused("place", Edges.INDEX, x, () -> x.place(0, piece));
        }
        Check.refused("way, what 3", Edges.ARGUMENT, x, () -> x.way(0, 3));
        Check.refused("way, what -1", Edges.ARGUMENT, x, () -> x.way(0, -1));
        for (int frame : new int[] {-1, frames, Integer.MIN_VALUE, Integer.MAX_VALUE}) {
            Check.refused("at", Edges.INDEX, x, () -> x.at(frame, 0, 0));
            Check.refused("place", Edges.INDEX, x, () -> x.place(frame, 0));
            Check.refused("frame", Edges.INDEX, x, () -> x.frame(frame, 0));
            Check.refused("frame, what 5", Edges.INDEX, x, () -> x.frame(frame, 5));
        }
        int[][] outside = {{-1, 0}, {5, 0}, {0, -1}, {0, 16}};
        for (int[] o : outside) {
            Check.refused("at", Edges.INDEX, x, () -> x.at(0, o[0], o[1]));
        }
        Check.refused("frame, what 5", Edges.ARGUMENT, x, () -> x.frame(0, 5));
        Check.refused("frame, what -1", Edges.ARGUMENT, x, () -> x.frame(0, -1));
        Check.same("last frame", x.at(frames - 1, 0, 0), 'c');
        Check.same("last cell", x.at(frames - 1, 4, 15), 32);
    }
}

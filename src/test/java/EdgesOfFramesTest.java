import java.util.List;
import java.util.function.Supplier;

/** The edges that promises 12 to 15 name, and those of ways and frames that their answers tell of. */
public final class EdgesOfFramesTest {
    private static final List<Supplier<TextMorph>> OBJECTS = List.of(TextMorph::new, Edges::busy, Edges::full,
            () -> Edges.withSetting(Check.of("a", "a"), 6, 0, 7, 0));

    private EdgesOfFramesTest() {
    }

    public static void main(String[] args) {
        promise12Refused();
        promise12CornerToCorner();
        promise12AtLeast();
        promise12Goals();
        promise12Vanishing();
        promise12Patience();
        promise12RightBefore();
        promise12Wall();
        promise13Refused();
        promise13FirstAndLast();
        promise13Holds();
        promise13Changed();
        promise13Order();
        promise13Shown();
        promise14Refused();
        promise14();
        promise15Refused();
        promise15();
        promise15Before();
        promise15Shared();
        promise15Held();
        Check.end();
    }

    private static void promise12Refused() {
        for (Supplier<TextMorph> made : OBJECTS) {
            int pieces = made.get().count(1);
            for (int piece : new int[] {-1, pieces, pieces + 65536, Integer.MIN_VALUE, Integer.MAX_VALUE}) {
                Edges.refused("12: piece " + piece, Edges.INDEX, made, x -> x.way(piece, 0));
                Edges.refused("12: piece " + piece + ", wrong what", Edges.INDEX, made, x -> x.way(piece, 3));
            }
        }
        for (int what : Edges.outside(0, 2)) {
            Edges.refused("12: what " + what, Edges.ARGUMENT, Edges::busy, x -> x.way(0, what));
            Edges.refused("12: what " + what, Edges.ARGUMENT, Edges::full, x -> x.way(39, what));
        }
        Check.same("12: the last of forty", Edges.full().way(39, 0), 0);
        Edges.refused("12: letters of the second text are no pieces", Edges.INDEX, () -> Check.of("a", "abc"),
                x -> x.way(1, 0));
        for (int what = 0; what <= 2; what++) {
            int asked = what;
            Edges.leaves("12: way", Edges::busy, x -> x.way(0, asked));
        }
    }

    private static void goes(String name, String from, String to, int way, int... cells) {
        TextMorph x = Edges.withSetting(Check.of(from, to), 4, way, 6, 0, 7, 0);
        Edges.places("12: " + name + " way " + way, x, 0, 0, cells);
        Edges.way("12: " + name + " way " + way, x, 0, cells.length - 1, 0, cells.length - 1);
        Check.same("12: " + name + " frames", x.count(0), cells.length);
    }

    private static void promise12CornerToCorner() {
        String a = "a";
        String b = "...............a";
        String c = "////a";
        String d = "////...............a";
        goes("down right", a, d, 0, 0, 1, 2, 3, 4, 5, 6, 7, 8, 9, 10, 11, 12, 13, 14, 15, 31, 47, 63, 79);
        goes("down right", a, d, 1, 0, 16, 32, 48, 64, 65, 66, 67, 68, 69, 70, 71, 72, 73, 74, 75, 76, 77, 78, 79);
        goes("down right", a, d, 2, 0, 1, 2, 3, 4, 5, 6, 7, 8, 9, 10, 11, 12, 28, 29, 45, 46, 62, 63, 79);
        goes("up left", d, a, 0, 79, 78, 77, 76, 75, 74, 73, 72, 71, 70, 69, 68, 67, 66, 65, 64, 48, 32, 16, 0);
        goes("up left", d, a, 1, 79, 63, 47, 31, 15, 14, 13, 12, 11, 10, 9, 8, 7, 6, 5, 4, 3, 2, 1, 0);
        goes("up left", d, a, 2, 79, 78, 77, 76, 75, 74, 73, 72, 71, 70, 69, 68, 67, 51, 50, 34, 33, 17, 16, 0);
        goes("down left", b, c, 0, 15, 14, 13, 12, 11, 10, 9, 8, 7, 6, 5, 4, 3, 2, 1, 0, 16, 32, 48, 64);
        goes("down left", b, c, 1, 15, 31, 47, 63, 79, 78, 77, 76, 75, 74, 73, 72, 71, 70, 69, 68, 67, 66, 65, 64);
        goes("down left", b, c, 2, 15, 14, 13, 12, 11, 10, 9, 8, 7, 6, 5, 4, 3, 19, 18, 34, 33, 49, 48, 64);
        goes("up right", c, b, 0, 64, 65, 66, 67, 68, 69, 70, 71, 72, 73, 74, 75, 76, 77, 78, 79, 63, 47, 31, 15);
        for (int way = 0; way <= 2; way++) {
            goes("down", a, c, way, 0, 16, 32, 48, 64);
            goes("up", c, a, way, 64, 48, 32, 16, 0);
            goes("right", "a", "..a", way, 0, 1, 2);
            goes("left", "..a", "a", way, 2, 1, 0);
            goes("nowhere", "a", "a", way, 0);
        }
    }

    /** "If the difference of columns that is left is at least the difference of rows that is left", not weighted. */
    private static void promise12AtLeast() {
        goes("as far", "a", "/.a", 2, 0, 1, 17);
        goes("as far back", "/.a", "a", 2, 17, 16, 0);
        goes("farther along the column", "a", "//.a", 2, 0, 16, 17, 33);
        goes("farther along the row", "a", "/..a", 2, 0, 1, 2, 18);
        TextMorph x = Edges.withSetting(Check.of("a", "/.a"), 0, 9, 4, 2, 6, 0);
        Edges.places("12: rows not weighted", x, 0, 0, 0, 1, 17);
    }

    private static void promise12Goals() {
        Edges.way("12: at its goal", Check.of("a", "a"), 0, 0, 0, 0);
        Edges.way("12: at its goal, changed", Check.of("a", "b"), 0, 0, 0, 0);
        Edges.way("12: at its goal, moved", Check.of(".....qab", "ab...q"), 0, 0, 0, 0);
        Edges.way("12: one step", Edges.withSetting(Check.of("a", ".a"), 6, 0), 0, 1, 0, 1);
        Edges.way("12: one step, long hold", Edges.withSetting(Check.of("a", ".a"), 6, 20), 0, 1, 0, 21);
        Edges.way("12: one step, changed", Edges.withSetting(Check.of("a", ".b"), 6, 0), 0, 1, 0, 1);
        // At its goal now, though it was not before.
        TextMorph moved = Check.of("a", ".a");
        Edges.way("12: away", moved, 0, 1, 0, 3);
        moved.put(1, 0, 1, 32);
        moved.put(1, 0, 0, 'a');
        Edges.way("12: no longer away", moved, 0, 0, 0, 0);
        moved.put(1, 0, 0, 'b');
        Edges.way("12: nor when it is changed", moved, 0, 0, 0, 0);
        // Behind the one that vanishes.
        TextMorph x = Edges.withSetting(Check.of("a/x", ".a"), 6, 0);
        Edges.way("12: behind the vanishing", x, 0, 1, 0, 2);
        Edges.way("12: that vanishes", x, 1, 0, 0, 1);
    }

    private static void promise12Vanishing() {
        TextMorph x = Edges.withSetting(Check.of(Edges.forty('a'), ""), 6, 0);
        for (int piece = 0; piece < 40; piece++) {
            Edges.way("12: forty vanish", x, piece, 0, 0, 40 - piece);
        }
        x.set(6, 20);
        Edges.way("12: the highest", x, 39, 0, 0, 21);
        Edges.way("12: the lowest", x, 0, 0, 0, 60);
        // Only those that vanish are counted: here the pieces 0 and 2.
        x = Edges.withSetting(Check.of("xay/b", ".a/b"), 6, 0);
        Edges.way("12: piece 2", x, 2, 0, 0, 1);
        Edges.way("12: piece 0", x, 0, 0, 0, 2);
        Edges.way("12: piece 1", x, 1, 0, 0, 0);
    }

    private static void exchange(int patience, int moving, int heldIn, int frames) {
        TextMorph x = Edges.withSetting(Check.of("ab", "ba"), 5, patience);
        Edges.way("12: patience " + patience, x, 0, 1, heldIn, 2 + moving);
        Edges.way("12: patience " + patience, x, 1, 1, heldIn, 2 + moving);
        Check.same("12: frames of moving", x.count(8), moving);
        Check.same("12: frames", x.count(0), frames);
        Check.same("12: held in all", x.count(11), 2 * heldIn);
    }

    private static void promise12Patience() {
        exchange(0, 1, 0, 6);
        exchange(1, 2, 1, 7);
        exchange(2, 3, 2, 8);
        exchange(3, 4, 3, 9);
        exchange(9, 10, 9, 15);
    }

    /** Held, then free, then held again: the frames before the step do not count. */
    private static void promise12RightBefore() {
        TextMorph x = Edges.withSetting(Check.of("ab", "..ba"), 5, 2);
        Edges.film("12: right before", x, "ab", "ab", "ab", "a.b", ".ab", ".ab", ".ab", "..a", "..ba", "..ba", "..ba");
        Edges.way("12: right before", x, 0, 3, 3, 8);
        Edges.way("12: right before", x, 1, 1, 0, 3);
    }

    private static TextMorph wall() {
        TextMorph x = new TextMorph();
        for (int text = 0; text < 2; text++) {
            for (int column = 1; column < 16; column++) {
                x.put(text, 0, column, 'b');
            }
            for (int row = 1; row < 4; row++) {
                x.put(text, row, 15, 'b');
            }
        }
        x.put(0, 0, 0, 'a');
        x.put(1, 4, 15, 'a');
        return x;
    }

    /** A piece that goes from corner to corner, and is held before each cell but the last by a piece at its goal. */
    private static void promise12Wall() {
        TextMorph x = wall();
        int[][] due = {{0, 19, 0}, {1, 37, 18}, {3, 73, 54}, {9, 181, 162}};
        for (int[] d : due) {
            x.set(5, d[0]);
            Edges.way("12: wall, patience " + d[0], x, 0, 19, d[2], 2 + d[1]);
            Edges.way("12: wall, patience " + d[0], x, 18, 0, 0, 0);
            Check.same("12: wall, frames", x.count(0), 5 + d[1]);
            Check.same("12: wall, the last place but one", x.place(1 + d[1], 0), 63);
            Check.same("12: wall, the last place", x.place(2 + d[1], 0), 79);
        }
        x.set(6, 20);
        x.set(7, 20);
        Check.same("12: wall, long holds", x.count(0), 222);
        Check.same("12: wall, digest", x.digest(), Edges.digestByTheFace(x, ""));
        x.set(4, 1);
        Check.same("12: no wall the other way", x.count(8), 19);
    }

    private static int[] framesOutside(TextMorph x) {
        int frames = x.count(0);
        return new int[] {-1, frames, frames + 65536, Integer.MIN_VALUE, Integer.MAX_VALUE};
    }

    private static void promise13Refused() {
        for (Supplier<TextMorph> made : OBJECTS) {
            int last = made.get().count(0) - 1;
            for (int frame : framesOutside(made.get())) {
                Edges.refused("13: frame " + frame, Edges.INDEX, made, x -> x.at(frame, 0, 0));
            }
            for (int row : Edges.outside(0, 4)) {
                Edges.refused("13: row " + row, Edges.INDEX, made, x -> x.at(0, row, 0));
                Edges.refused("13: row " + row, Edges.INDEX, made, x -> x.at(last, row, 15));
            }
            for (int column : Edges.outside(0, 15)) {
                Edges.refused("13: column " + column, Edges.INDEX, made, x -> x.at(0, 0, column));
                Edges.refused("13: column " + column, Edges.INDEX, made, x -> x.at(last, 4, column));
            }
            Edges.leaves("13: at", made, x -> x.at(last, 4, 15));
        }
        TextMorph x = Check.of("a..............b////c..............d", "");
        Check.same("13: corner", x.at(0, 0, 0), 'a');
        Check.same("13: corner", x.at(0, 0, 15), 'b');
        Check.same("13: corner", x.at(0, 4, 0), 'c');
        Check.same("13: corner", x.at(0, 4, 15), 'd');
        Check.same("13: beside", x.at(0, 4, 14), 32);
        Edges.refused("13: a single frame", Edges.INDEX, OBJECTS.get(3), y -> y.at(1, 0, 0));
        Check.same("13: that shows the text", OBJECTS.get(3).get().at(0, 0, 0), 'a');
    }

    private static String textOf(TextMorph x, int text) {
        StringBuilder cells = new StringBuilder(Edges.times(80, ' '));
        for (int i = 0; i < x.count(1 + text); i++) {
            cells.setCharAt(16 * x.letter(text, i, 0) + x.letter(text, i, 1), (char) x.letter(text, i, 2));
        }
        return cells.toString();
    }

    /** "Frame 0 shows the first text", "the last frame shows the second text". */
    private static void promise13FirstAndLast() {
        String[] texts = {"", "a", "ab/.c", "ba//..............xy", Edges.forty('a'), Edges.forty('b'),
            "abcdefghijklmnop/qrstuvwxyz", "////...............a", "//........" + Edges.times(8, 'b') + "/"
                    + Edges.times(16, 'a') + "/" + Edges.times(16, 'b')};
        for (String first : texts) {
            for (String second : texts) {
                TextMorph x = Check.of(first, second);
                for (int way = 0; way <= 2; way++) {
                    x.set(4, way);
                    x.set(5, 9 * (way % 2));
                    x.set(6, 20 * (way % 2));
                    x.set(7, 20 * (way / 2));
                    String name = "13: " + first + " to " + second + " way " + way;
                    Check.same(name + " first", Edges.cells(x, 0), textOf(x, 0));
                    Check.same(name + " last", Edges.cells(x, x.count(0) - 1), textOf(x, 1));
                }
            }
        }
    }

    private static void promise13Holds() {
        TextMorph x = Edges.withSetting(Check.of("ab", "b"), 6, 0, 7, 0);
        // b goes to the cell of a, which is gone.
        Edges.film("13: no holds", x, "ab", ".b", "b");
        x.set(6, 1);
        Edges.film("13: hold 1 at the beginning", x, "ab", "ab", ".b", "b");
        x.set(6, 0);
        x.set(7, 1);
        Edges.film("13: hold 1 at the end", x, "ab", ".b", "b", "b");
        x.set(6, 20);
        x.set(7, 20);
        Check.same("13: long holds", x.count(0), 43);
        for (int frame = 0; frame <= 20; frame++) {
            Check.same("13: held at the beginning", Check.picture(x, frame), "ab");
            Check.same("13: held at the end", Check.picture(x, 22 + frame), "b");
        }
        Check.same("13: between them", Check.picture(x, 21), ".b");
        Edges.film("13: blank texts", Edges.withSetting(new TextMorph(), 6, 0, 7, 0), "");
        Edges.film("13: equal texts", Edges.withSetting(Check.of("ab", "ab"), 6, 1, 7, 1), "ab", "ab", "ab");
    }

    /** "If there are changed pairs, there is at least one (in which nothing moves, if all are at their goals)." */
    private static void promise13Changed() {
        TextMorph x = Edges.withSetting(Check.of("xa", "ya"), 6, 0, 7, 0);
        Edges.film("13: nothing moves", x, "xa", "ya");
        Edges.frame("13: nothing moves", x, 1, 2, 1, 0, 0, 2);
        Check.same("13: one frame of moving", x.count(8), 1);
        x.set(6, 20);
        Check.same("13: not before it", Check.picture(x, 20), "xa");
        Check.same("13: in it", Check.picture(x, 21), "ya");
        // One is at its goal, the other one goes two steps and changes with the last one.
        x = Edges.withSetting(Check.of("x..v", "y....w"), 6, 0, 7, 1);
        Edges.film("13: at once and behind the steps", x, "x..v", "y...v", "y....w", "y....w");
        // One that is held on its way still has its letter.
        x = Edges.withSetting(Check.of("xa", ".ay"), 6, 0, 7, 0, 5, 1);
        Edges.film("13: held", x, "xa", "xa", ".x", ".ay");
        // Vanishing is before it, appearing behind it.
        x = Edges.withSetting(Check.of("x/q", "y////z"), 2, 0, 6, 0, 7, 0);
        Edges.film("13: in their order", x, "x/q", "x", "y", "y////z");
        Check.same("13: no frame of moving", Check.of("a", "a").count(8), 0);
    }

    private static void promise13Order() {
        TextMorph x = Edges.withSetting(Check.of("abc", ""), 6, 0, 7, 0);
        Edges.film("13: the highest number first", x, "abc", "ab", "a", "");
        x.swap();
        Edges.film("13: the lowest number first", x, "", "a", "ab", "abc");
        x = Edges.withSetting(Check.of("", Edges.forty('a')), 6, 0, 7, 0);
        Check.same("13: forty appear", x.count(0), 41);
        for (int frame = 0; frame <= 40; frame++) {
            Check.same("13: so many", Edges.cells(x, frame), Edges.times(frame, 'a') + Edges.times(80 - frame, ' '));
        }
        x.swap();
        for (int frame = 0; frame <= 40; frame++) {
            Check.same("13: so many are left", Edges.cells(x, frame),
                    Edges.times(40 - frame, 'a') + Edges.times(40 + frame, ' '));
        }
        // The steps are in ascending order, and each is seen by those behind it.
        x = Edges.withSetting(Check.of("abc", ".abc"), 6, 0, 7, 0);
        Edges.film("13: to the right", x, "abc", "ab.c", "a.bc", ".abc");
        x = Edges.withSetting(Check.of(".abc", "abc"), 6, 0, 7, 0);
        Edges.film("13: to the left", x, ".abc", "abc");
        x = Edges.withSetting(Check.of("a/b/c", "/a/b/c"), 6, 0, 7, 0);
        Edges.film("13: downwards", x, "a/b/c", "a/b//c", "a//b/c", "/a/b/c");
    }

    /** "The letter of the piece in it with the lowest number, or else the letter that has appeared there." */
    private static void promise13Shown() {
        TextMorph x = Edges.withSetting(Check.of("/amb", "/bma"), 5, 0, 6, 0, 7, 0);
        Edges.film("13: three in a cell", x, "/amb", "/.a", "/bma");
        x = Edges.withSetting(Check.of("/mb", "/bm"), 5, 0, 6, 0, 7, 0);
        Edges.film("13: past each other", x, "/mb", "/bm");
        // a goes to where x was, which is gone; d appears where a was.
        x = Edges.withSetting(Check.of("a.x", "d.a"), 2, 0, 6, 0, 7, 0);
        Edges.film("13: appeared, then nothing", x, "a.x", "a", ".a", "..a", "d.a");
    }

    private static void promise14Refused() {
        for (Supplier<TextMorph> made : OBJECTS) {
            int pieces = made.get().count(1);
            for (int frame : framesOutside(made.get())) {
                Edges.refused("14: frame " + frame, Edges.INDEX, made, x -> x.place(frame, 0));
            }
            for (int piece : new int[] {-1, pieces, pieces + 65536, Integer.MIN_VALUE, Integer.MAX_VALUE}) {
                Edges.refused("14: piece " + piece, Edges.INDEX, made, x -> x.place(0, piece));
                Edges.refused("14: piece " + piece, Edges.INDEX, made, x -> x.place(x.count(0) - 1, piece));
            }
        }
        Edges.leaves("14: place", Edges::busy, x -> x.place(0, 0));
        Edges.refused("14: appearing letters are no pieces", Edges.INDEX, () -> Check.of("a", "ab"),
                x -> x.place(x.count(0) - 1, 1));
        Edges.refused("14: no pieces at all", Edges.INDEX, () -> Check.of("", "ab"), x -> x.place(0, 0));
        Check.same("14: the last of forty", Edges.full().place(0, 39), 39);
    }

    private static void promise14() {
        TextMorph x = Edges.withSetting(Check.of("a..............b////c..............d", "a////...............d"), 2, 0,
                6, 1, 7, 1);
        Edges.places("14: corner", x, 0, 0, 0, 0, 0, 0, 0);
        Edges.places("14: gone at last", x, 1, 0, 15, 15, 15, TextMorph.NONE, TextMorph.NONE);
        Edges.places("14: gone at first", x, 2, 0, 64, 64, TextMorph.NONE, TextMorph.NONE, TextMorph.NONE);
        Edges.places("14: corner", x, 3, 0, 79, 79, 79, 79, 79);
        Check.same("14: frames", x.count(0), 5);
        x = Edges.withSetting(Check.of("a", "..a//z"), 6, 1, 7, 1);
        Edges.places("14: there to the end", x, 0, 0, 0, 0, 1, 2, 2, 2);
        Check.same("14: frames", x.count(0), 6);
    }

    private static void promise15Refused() {
        for (Supplier<TextMorph> made : OBJECTS) {
            for (int frame : framesOutside(made.get())) {
                Edges.refused("15: frame " + frame, Edges.INDEX, made, x -> x.frame(frame, 0));
                Edges.refused("15: frame " + frame + ", wrong what", Edges.INDEX, made, x -> x.frame(frame, 5));
            }
            for (int what : Edges.outside(0, 4)) {
                Edges.refused("15: what " + what, Edges.ARGUMENT, made, x -> x.frame(0, what));
                Edges.refused("15: what " + what, Edges.ARGUMENT, made, x -> x.frame(x.count(0) - 1, what));
            }
        }
        for (int what = 0; what <= 4; what++) {
            int asked = what;
            Edges.leaves("15: frame", Edges::busy, x -> x.frame(3, asked));
        }
    }

    private static void promise15() {
        Edges.frame("15: blank", new TextMorph(), 0, 0, 0, 0, 0, 0);
        Edges.frame("15: blank", new TextMorph(), 4, 0, 0, 0, 0, 0);
        TextMorph x = Edges.full();
        Edges.frame("15: forty", x, 0, 40, 0, 0, 0, 40);
        Edges.frame("15: forty, held", x, 2, 40, 0, 0, 0, 40);
        Edges.frame("15: forty, changed", x, 3, 40, 40, 0, 0, 40);
        Edges.frame("15: forty, the last", x, 5, 40, 0, 0, 0, 40);
        x = Edges.withSetting(Check.of(Edges.forty('a'), ""), 6, 0, 7, 0);
        Edges.frame("15: forty vanish", x, 0, 40, 0, 0, 0, 40);
        Edges.frame("15: one is gone", x, 1, 39, 1, 0, 0, 39);
        Edges.frame("15: one is left", x, 39, 1, 1, 0, 0, 1);
        Edges.frame("15: none is left", x, 40, 0, 1, 0, 0, 0);
        x.swap();
        Edges.frame("15: appearing letters are no pieces", x, 1, 1, 1, 0, 0, 0);
        Edges.frame("15: appearing letters are no pieces", x, 40, 40, 1, 0, 0, 0);
        x = new TextMorph();
        for (int cell = 0; cell < 80; cell += 2) {
            x.put(0, cell / 16, cell % 16, 'a');
            x.put(1, cell / 16, cell % 16 + 1, 'a');
        }
        Edges.frame("15: all eighty cells show something else", x, 3, 40, 80, 0, 0, 40);
        Edges.frame("15: none does", x, 4, 40, 0, 0, 0, 40);
    }

    /** "Than in the frame before (0 for frame 0)", whatever was asked before. */
    private static void promise15Before() {
        TextMorph x = Check.of("ab", "ba");
        int[] due = {0, 0, 0, 0, 0, 0, 2, 0, 0};
        for (int frame = 8; frame >= 0; frame--) {
            Check.same("15: cells that differ in " + frame, x.frame(frame, 1), due[frame]);
            Check.same("15: a cell of the last one", x.at(8, 0, 0), 'b');
            Check.same("15: cells that differ in " + frame, x.frame(frame, 1), due[frame]);
            Check.same("15: a cell of the first one", x.at(0, 0, 0), 'a');
            Check.same("15: cells that differ in " + frame, x.frame(frame, 1), due[frame]);
        }
    }

    private static void promise15Shared() {
        TextMorph x = Edges.withSetting(Check.of("/amb", "/bma"), 5, 0, 6, 0, 7, 0);
        Edges.frame("15: three in a cell", x, 0, 3, 0, 0, 0, 3);
        Edges.frame("15: three in a cell", x, 1, 1, 3, 0, 1, 3);
        Edges.frame("15: three in a cell", x, 2, 3, 3, 0, 0, 3);
        x = Edges.withSetting(Check.of("amb//cnd", "bma//dnc"), 5, 0, 6, 0, 7, 0);
        Edges.frame("15: two such cells", x, 1, 2, 6, 0, 2, 6);
        x = Edges.withSetting(Check.of("ab", "ba"), 5, 0, 6, 0, 7, 0);
        Edges.frame("15: past each other", x, 1, 2, 2, 0, 0, 2);
        x = Edges.withSetting(Check.of("am", ".ma"), 5, 0, 6, 0, 7, 0);
        Edges.frame("15: two in a cell", x, 1, 1, 2, 0, 1, 2);
        x = Edges.withSetting(Check.of("wxyz/amb", "/bma"), 5, 0, 6, 0, 7, 0);
        Edges.frame("15: three behind those that vanish", x, 5, 1, 3, 0, 1, 3);
    }

    private static void promise15Held() {
        TextMorph x = Check.of("ab", "ba");
        int[] due = {0, 0, 0, 2, 2, 2, 0, 0, 0};
        for (int frame = 0; frame < 9; frame++) {
            Check.same("15: held in frame " + frame, x.frame(frame, 2), due[frame]);
        }
        x.set(5, 0);
        for (int frame = 0; frame < 6; frame++) {
            Check.same("15: none held in frame " + frame, x.frame(frame, 2), 0);
        }
        // Only the one behind is held, and only as long as the cell is not free.
        x = Edges.withSetting(Check.of("ab", ".ab"), 6, 0, 7, 0);
        Edges.frame("15: one held", x, 1, 2, 2, 1, 0, 2);
        Edges.frame("15: none held", x, 2, 2, 2, 0, 0, 2);
        // A piece at its goal holds; one that is gone does not.
        x = Edges.withSetting(Check.of("ab", ".ba"), 5, 1, 6, 0, 7, 0);
        Edges.frame("15: held by one at its goal", x, 1, 2, 0, 1, 0, 2);
        x = Edges.withSetting(Check.of("ab", "..a"), 5, 9, 6, 0, 7, 0);
        Edges.film("15: not held by one that is gone", x, "ab", "a", ".a", "..a");
        Check.same("15: not held", x.count(11), 0);
    }
}

import java.util.List;
import java.util.function.Supplier;

/** The edges that promise 11 names, and those of distances and pairs that its answers tell of. */
public final class EdgesOfPairsTest {
    // The letter a is behind wxyz in the second text and before it in the first, so that it is no common one.
    private static final String MOVED = "2:4 1:0 1:1 1:2 1:3 | 1 1 1 1 2";
    private static final String CHANGED = "3:4 1:0 1:1 1:2 1:3 | 1 1 1 1 3";
    private static final String ALONE = "4 1:0 1:1 1:2 1:3 | 1 1 1 1 5";

    private EdgesOfPairsTest() {
    }

    public static void main(String[] args) {
        promise11Letters();
        promise11What();
        promise11Corners();
        promise11Numbers();
        promise11Distances();
        promise11Common();
        promise11CommonOfForty();
        promise11Reach();
        promise11ReachOfChanges();
        promise11NearestFirst();
        promise11Lines();
        promise11UntilThereAreNone();
        Check.end();
    }

    private static void paired(String first, String second, String due, int... settings) {
        TextMorph x = Edges.withSetting(Check.of(first, second), settings);
        Check.same("11: " + first + " to " + second, PairsTest.pairs(x), due);
    }

    private static void promise11Letters() {
        for (Supplier<TextMorph> made : List.<Supplier<TextMorph>>of(TextMorph::new, Edges::busy, Edges::full)) {
            for (int text = 0; text < 2; text++) {
                int of = text;
                int letters = made.get().count(1 + text);
                for (int letter : Edges.outside(0, letters - 1)) {
                    if (letter == -1 || letter >= letters || letter < 0) {
                        Edges.refused("11: letter " + letter, Edges.INDEX, made, x -> x.letter(of, letter, 0));
                        Edges.refused("11: letter " + letter + ", wrong what", Edges.INDEX, made,
                                x -> x.letter(of, letter, 6));
                    }
                }
            }
            for (int text : Edges.outside(0, 1)) {
                Edges.refused("11: text " + text, Edges.INDEX, made, x -> x.letter(text, 0, 0));
                Edges.refused("11: text " + text + ", wrong what", Edges.INDEX, made, x -> x.letter(text, 0, -1));
            }
        }
        Check.same("11: the last of forty", Edges.full().letter(1, 39, 1), 7);
        Edges.refused("11: no letter 40", Edges.INDEX, Edges::full, x -> x.letter(0, 40, 0));
        Edges.refused("11: the other text is longer", Edges.INDEX, () -> Check.of("a", "bc"), x -> x.letter(0, 1, 0));
        Check.same("11: in which there is one", Check.of("a", "bc").letter(1, 1, 2), 'c');
        Edges.refused("11: it is gone with the put", Edges.INDEX, () -> {
            TextMorph x = Check.of("ab", "c");
            x.letter(0, 1, 0);
            x.put(0, 0, 0, 32);
            return x;
        }, x -> x.letter(0, 1, 0));
    }

    private static void promise11What() {
        for (int what : Edges.outside(0, 5)) {
            Edges.refused("11: what " + what, Edges.ARGUMENT, Edges::busy, x -> x.letter(0, 0, what));
            Edges.refused("11: what " + what, Edges.ARGUMENT, Edges::busy, x -> x.letter(1, 0, what));
        }
        for (int what = 0; what <= 5; what++) {
            int asked = what;
            Edges.leaves("11: letter", Edges::busy, x -> x.letter(0, 0, asked));
        }
    }

    private static void letter(String name, TextMorph x, int text, int letter, int... due) {
        for (int what = 0; what < due.length; what++) {
            Check.same("11: " + name + " " + text + " " + letter + " " + what, x.letter(text, letter, what), due[what]);
        }
    }

    private static void promise11Corners() {
        TextMorph x = Check.of("a..............b////y..............z", "");
        letter("corner", x, 0, 0, 0, 0, 'a', -1, 4, 0);
        letter("corner", x, 0, 1, 0, 15, 'b', -1, 4, 0);
        letter("corner", x, 0, 2, 4, 0, 'y', -1, 4, 0);
        letter("corner", x, 0, 3, 4, 15, 'z', -1, 4, 0);
        x.swap();
        letter("corner", x, 1, 0, 0, 0, 'a', -1, 5, 0);
        letter("corner", x, 1, 3, 4, 15, 'z', -1, 5, 0);
        x = Check.of("z", "a");
        letter("same cell", x, 0, 0, 0, 0, 'z', 0, 3, 0);
        letter("same cell", x, 1, 0, 0, 0, 'a', 0, 3, 0);
    }

    /** "Numbered from 0 by ascending rows, those of the same row by ascending columns." */
    private static void promise11Numbers() {
        TextMorph x = new TextMorph();
        int[] cells = {79, 0, 16, 15, 64, 31, 40};
        for (int cell : cells) {
            x.put(0, cell / 16, cell % 16, 'k');
        }
        int[] due = {0, 15, 16, 31, 40, 64, 79};
        for (int i = 0; i < 7; i++) {
            Check.same("11: number " + i, 16 * x.letter(0, i, 0) + x.letter(0, i, 1), due[i]);
        }
        x.put(0, 0, 0, 32);
        Check.same("11: number 0 when it is blank", 16 * x.letter(0, 0, 0) + x.letter(0, 0, 1), 15);
    }

    private static void distance(String first, String second, int weight, int due) {
        TextMorph x = Edges.withSetting(Check.of(first, second), 0, weight);
        Check.same("11: distance of " + first + " to " + second, x.letter(0, 0, 5), due);
        Check.same("11: distance from the other side", x.letter(1, 0, 5), due);
        Check.same("11: sum of distances", x.count(9), due);
        x.swap();
        Check.same("11: the other way round", x.letter(0, 0, 5), due);
    }

    private static void promise11Distances() {
        String[] corners = {"a", "...............a", "////a", "////...............a"};
        for (int weight : new int[] {1, 2, 9}) {
            for (int i = 0; i < 4; i++) {
                for (int j = 0; j < 4; j++) {
                    int columns = i % 2 == j % 2 ? 0 : 15;
                    int rows = i / 2 == j / 2 ? 0 : 4;
                    distance(corners[i], corners[j], weight, columns + weight * rows);
                }
            }
        }
        distance("..a", "/a", 2, 4);
        distance("a", "/..a", 2, 4);
        distance("b", "...c", 9, 3);
        distance("b", "/c", 9, 9);
    }

    private static void promise11Common() {
        paired("", "", "|");
        paired("a", "", "4 |");
        paired("", "a", "| 5");
        paired("a", "a", "1:0 | 1");
        // The lowest number of the first text, then of the second, pair by pair.
        paired("aa", "aa", "1:0 1:1 | 1 1");
        paired("aaa", "aa", "1:0 1:1 4 | 1 1");
        paired("aa", "aaa", "1:0 1:1 | 1 1 5");
        paired("abc", "acb", "1:0 1:2 2:1 | 1 2 1");
        paired("acb", "abc", "1:0 1:2 2:1 | 1 2 1");
        paired("abcc", "abc", "1:0 1:1 1:2 4 | 1 1 1");
        paired("abc", "abcc", "1:0 1:1 1:2 | 1 1 1 5");
        paired("aab", "ab", "1:0 4 1:1 | 1 1");
        paired("ab", "aab", "1:0 1:2 | 1 5 1", 2, 0);
        // As long as possible comes first, even if its first pair has the highest numbers.
        paired("abcd", "bcda", "2:3 1:0 1:1 1:2 | 1 1 1 2");
        paired("bcda", "abcd", "1:1 1:2 1:3 2:0 | 2 1 1 1");
        // Neither distances nor lines nor reaches matter.
        paired("a/b/c", "...............a/...............b/...............c", "1:0 1:1 1:2 | 1 1 1", 0, 9, 1, 0,
                2, 0, 3, 1);
        paired("a////...............b", "...............a////b", "1:0 1:1 | 1 1", 0, 9, 1, 0, 2, 0, 3, 1);
    }

    private static void promise11CommonOfForty() {
        TextMorph x = Check.of(Edges.forty('a'), Edges.forty('a'));
        for (int i = 0; i < 40; i++) {
            Check.same("11: forty common ones", x.letter(0, i, 3), i);
            Check.same("11: forty common ones", x.letter(1, i, 4), 1);
        }
        x.put(1, 0, 0, 32);
        for (int i = 0; i < 39; i++) {
            Check.same("11: thirty-nine common ones", x.letter(0, i, 3), i);
        }
        Check.same("11: the highest one is left", x.letter(0, 39, 4), 4);
        x.swap();
        for (int i = 0; i < 39; i++) {
            Check.same("11: thirty-nine common ones", x.letter(0, i, 3), i);
        }
        Check.same("11: the highest one is left", x.letter(1, 39, 4), 5);
        x = Edges.full();
        for (int i = 0; i < 40; i++) {
            Check.same("11: forty changed ones", x.letter(0, i, 3), i);
            Check.same("11: forty changed ones", x.letter(1, i, 4), 3);
        }
        // Nothing of the forty is left in what is paired next.
        x = Check.of(Edges.forty('a'), Edges.forty('a'));
        Check.same("11: forty of forty", x.count(3), 40);
        Edges.withBuffer(x, "a").load(0);
        Edges.withBuffer(x, "bca").load(1);
        Check.same("11: behind forty", PairsTest.pairs(x), "1:2 | 5 5 1");
        x = Check.of(Edges.forty('a'), "");
        Check.same("11: forty that vanish", x.letter(0, 0, 4) + x.letter(0, 39, 4), 8);
        x.swap();
        Check.same("11: forty that appear", x.letter(1, 0, 4) + x.letter(1, 39, 4), 10);
    }

    /** "Whose distance is at most the reach": just met, just missed, nothing, and the whole field. */
    private static void promise11Reach() {
        paired("a////wxyz", "wxyz////...............a", MOVED, 0, 9, 1, 51, 2, 0);
        paired("a////wxyz", "wxyz////...............a", ALONE, 0, 9, 1, 50, 2, 0);
        paired("a////wxyz", "wxyz////...............a", MOVED, 0, 9, 1, 200, 2, 0);
        paired("a////wxyz", "wxyz////...............a", MOVED, 0, 9);
        paired("a////wxyz", "wxyz////...............a", MOVED, 0, 1, 1, 19, 2, 0);
        paired("a////wxyz", "wxyz////...............a", ALONE, 0, 1, 1, 18, 2, 0);
        // A reach of 0 takes equal letters in the same cell, and no others.
        paired(".....qab", "ab...q", "2:2 1:0 1:1 | 1 1 2", 1, 0, 2, 0);
        paired(".....qab", "ab....q", "4 1:0 1:1 | 1 1 5", 1, 0, 2, 0);
        paired(".....qab", "ab....q", "2:2 1:0 1:1 | 1 1 2", 1, 1, 2, 0);
        Check.same("11: no distance in the same cell", Check.of(".....qab", "ab...q").letter(0, 0, 5), 0);
    }

    private static void promise11ReachOfChanges() {
        paired("x", "y", "3:0 | 3", 2, 0);
        paired("x", ".y", "4 | 5", 2, 0);
        paired("x", ".y", "3:0 | 3", 2, 1);
        paired("x", "............y", "3:0 | 3");
        paired("x", ".............y", "4 | 5");
        paired("x", "////...............y", "3:0 | 3", 0, 9, 2, 51);
        paired("x", "////...............y", "4 | 5", 0, 9, 2, 50);
        paired("x", "////...............y", "3:0 | 3", 0, 9, 2, 200);
        // Equal ones that are out of the reach are told as changed, if they are in the reach of changes.
        paired("a////wxyz", "wxyz////...............a", CHANGED, 0, 9, 1, 50, 2, 51);
        paired("a////wxyz", "wxyz////...............a", CHANGED, 0, 9, 1, 0, 2, 200);
        paired("a////wxyz", "wxyz////...............a", ALONE, 0, 9, 1, 50, 2, 50);
    }

    /** "The one with the least distance, of several the lowest number of the first text, .. of the second text." */
    private static void promise11NearestFirst() {
        paired(".x..x", "...y..y", "3:1 3:0 | 3 3");
        paired(".x..x", "...y..y", "4 3:0 | 3 5", 2, 4);
        paired("..x", ".y.y", "3:0 | 3 5");
        paired(".x.x", "..y", "3:0 4 | 3");
        paired("x..x", "..y", "4 3:0 | 3");
        paired("..x", "y..y", "3:1 | 5 3");
        paired("x.x", ".y.y", "3:0 3:1 | 3 3");
        // In different rows, the row counts with its weight.
        paired("..x", "y/..z", "3:0 | 3 5");
        paired("..x", "y/..z", "3:1 | 5 3", 0, 1);
        paired("..x", "y/..z", "3:0 | 3 5", 0, 9);
        // The same among moved ones.
        paired("..a/wxyz", "wxyz/.a.a", "2:4 1:0 1:1 1:2 1:3 | 1 1 1 1 2 5");
        paired(".a.a/wxyz", "wxyz/..a", "2:4 4 1:0 1:1 1:2 1:3 | 1 1 1 1 2");
        paired("a..a/wxyz", "wxyz/..a", "4 2:4 1:0 1:1 1:2 1:3 | 1 1 1 1 2");
        paired("..a/wxyz", "wxyz/a..a", "2:5 1:0 1:1 1:2 1:3 | 1 1 1 1 5 2");
        // A moved pair comes before a nearer changed one.
        paired("ab/wxyz", "wxyz/ca", "2:5 3:4 1:0 1:1 1:2 1:3 | 1 1 1 1 3 2");
    }

    private static void promise11Lines() {
        String apart = "wxyz.a/a";
        paired("a/wxyz", apart, "2:5 1:0 1:1 1:2 1:3 | 1 1 1 1 5 2", 3, 0);
        paired("a/wxyz", apart, "2:4 1:0 1:1 1:2 1:3 | 1 1 1 1 2 5", 3, 1);
        paired("a/wxyz", apart, "4 1:0 1:1 1:2 1:3 | 1 1 1 1 5 5", 1, 4, 2, 4, 3, 1);
        paired("a/wxyz", "wxyz/a", ALONE, 1, 200, 2, 200, 3, 1);
        paired("....a/wxyz", "wxyza", MOVED, 1, 0, 2, 0, 3, 1);
        // "In the same way (also if lines are kept)": changed ones stay in their rows then.
        paired("x", "/y", "4 | 5", 2, 200, 3, 1);
        paired("x", "/y", "3:0 | 3", 2, 200, 3, 0);
        paired("x", "y", "3:0 | 3", 2, 0, 3, 1);
        paired("x", "...............y/y", "3:0 | 3 5", 2, 200, 3, 1);
        paired("x", "...............y/y", "3:1 | 5 3", 2, 200, 3, 0);
        paired("////x", "///y/............y", "3:1 | 5 3", 3, 1);
    }

    private static void promise11UntilThereAreNone() {
        paired("abcd/wxyzv", "wxyzv/dcba", "2:8 2:7 2:6 2:5 1:0 1:1 1:2 1:3 1:4 | 1 1 1 1 1 2 2 2 2");
        paired("mnop", "qrst", "3:0 3:1 3:2 3:3 | 3 3 3 3");
        paired("mnop", "qr", "3:0 3:1 4 4 | 3 3", 2, 200);
        paired("mn", "qrst", "3:0 3:1 | 3 3 5 5", 2, 200);
        TextMorph x = Edges.withSetting(Check.of(Edges.forty('a'),
                "//........" + Edges.times(8, 'b') + "/" + Edges.times(16, 'b') + "/" + Edges.times(16, 'b')), 2, 200);
        Check.same("11: forty changed ones, apart", x.count(5), 40);
        x.set(2, 0);
        Check.same("11: none of them", x.count(5), 0);
        Check.same("11: all vanish", x.count(6), 40);
        Check.same("11: all appear", x.count(7), 40);
    }
}

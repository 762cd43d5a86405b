/** Promise 11, letter, and what the document says under Pairs. */
public final class PairsTest {
    private PairsTest() {
    }

    public static void main(String[] args) {
        properties();
        common();
        moved();
        changed();
        linesKept();
        wrongOnes();
        Check.end();
    }

    /** Each letter of the first text as its kind and its partner, then the kinds of the second text. */
    static String pairs(TextMorph x) {
        StringBuilder all = new StringBuilder();
        for (int i = 0; i < x.count(1); i++) {
            int partner = x.letter(0, i, 3);
            all.append(x.letter(0, i, 4)).append(partner < 0 ? "" : ":" + partner).append(' ');
            if (partner >= 0) {
                Check.same("the partner's partner", x.letter(1, partner, 3), i);
                Check.same("the partner's kind", x.letter(1, partner, 4), x.letter(0, i, 4));
                Check.same("the partner's distance", x.letter(1, partner, 5), x.letter(0, i, 5));
            } else {
                Check.same("no distance", x.letter(0, i, 5), 0);
            }
        }
        all.append('|');
        for (int j = 0; j < x.count(2); j++) {
            all.append(' ').append(x.letter(1, j, 4));
        }
        return all.toString();
    }

    private static void paired(String first, String second, String due, int... settings) {
        TextMorph x = Check.of(first, second);
        for (int i = 0; i < settings.length; i += 2) {
            x.set(settings[i], settings[i + 1]);
        }
        Check.same(first + " to " + second, pairs(x), due);
    }

    private static void properties() {
        TextMorph x = Check.of(".a/..b//.....c", "/a/q");
        int[][] due = {{0, 1, 'a', 0, 1, 3}, {1, 2, 'b', 1, 3, 4}, {3, 5, 'c', -1, 4, 0}};
        for (int i = 0; i < 3; i++) {
            for (int what = 0; what < 6; what++) {
                Check.same("letter 0 " + i + " " + what, x.letter(0, i, what), due[i][what]);
            }
        }
        x.set(2, 3);
        Check.same("appears", x.letter(1, 1, 4), 5);
        Check.same("appears alone", x.letter(1, 1, 3), TextMorph.NONE);
        Check.same("appears without distance", x.letter(1, 1, 5), 0);
        x.set(0, 9);
        Check.same("weighted", x.letter(1, 0, 5), 10);
    }

    private static void common() {
        paired("ab", "ba", "1:1 2:0 | 2 1");
        paired("aa", "a", "1:0 4 | 1");
        paired("a", "aa", "1:0 | 1 5");
        paired("ba", "aab", "1:2 2:1 | 5 2 1", 2, 0);
        paired("xab", "abx", "2:2 1:0 1:1 | 1 1 2");
        // First pairs 0:0 in both, then 1:1 stands before 2:1.
        paired("abb", "ab", "1:0 1:1 4 | 1 1");
        // The longest one comes before the lowest numbers.
        paired("abcd", "bcda", "2:3 1:0 1:1 1:2 | 1 1 1 2");
        // Of two sequences of two, the one whose first pair has the lower number.
        paired("abcd", "cdab", "1:2 1:3 2:0 2:1 | 2 2 1 1");
        // Distances and lines do not matter.
        paired("a", "////...............a", "1:0 | 1", 0, 9, 1, 0, 2, 0, 3, 1);
    }

    private static void moved() {
        // Both are 3 away: the lowest number of the first text, then of the second.
        paired("a.a/wxyz", "wxyz/.a", "2:4 4 1:0 1:1 1:2 1:3 | 1 1 1 1 2");
        paired(".a/wxyz", "wxyz/a.a", "2:4 1:0 1:1 1:2 1:3 | 1 1 1 1 2 5");
        // The nearest comes first, though its numbers are higher.
        paired("a.a/wxyz", "wxyz/..a", "4 2:4 1:0 1:1 1:2 1:3 | 1 1 1 1 2");
        paired(".a/wxyz", "wxyz/a../.a", "2:4 1:0 1:1 1:2 1:3 | 1 1 1 1 2 5");
        paired(".a/wxyz", "wxyz/....a/.a", "2:5 1:0 1:1 1:2 1:3 | 1 1 1 1 5 2");
        // The reach is just met, just missed.
        paired("..a/wxyz", "wxyz/.a", "2:4 1:0 1:1 1:2 1:3 | 1 1 1 1 2", 1, 3, 2, 0);
        paired("..a/wxyz", "wxyz/.a", "4 1:0 1:1 1:2 1:3 | 1 1 1 1 5", 1, 2, 2, 0);
        paired("a/wxyz", "wxyz/a", "4 1:0 1:1 1:2 1:3 | 1 1 1 1 5", 0, 9, 1, 8, 2, 0);
        paired("a/wxyz", "wxyz/a", "2:4 1:0 1:1 1:2 1:3 | 1 1 1 1 2", 0, 9, 1, 9, 2, 0);
    }

    private static void changed() {
        paired("x", "y", "3:0 | 3");
        paired("x", "............y", "3:0 | 3");
        paired("x", ".............y", "4 | 5");
        paired("x", "..y", "4 | 5", 2, 1);
        paired("x", "..y", "3:0 | 3", 2, 2);
        // Each pair has the distance 1, then the lowest numbers; what is left is 3 away.
        paired("x.x", ".y.y", "3:0 3:1 | 3 3");
        paired(".x.x", "y.y", "3:0 3:1 | 3 3");
        paired("x..x", "..y", "4 3:0 | 3");
        // Equal ones that the reach leaves over are changed, too.
        paired("..a/wxyz", "wxyz/.a", "3:4 1:0 1:1 1:2 1:3 | 1 1 1 1 3", 1, 2);
        // Moved ones come first, however near a change would be.
        paired("ab/wxyz", "wxyz/ca", "2:5 3:4 1:0 1:1 1:2 1:3 | 1 1 1 1 3 2");
    }

    private static void linesKept() {
        paired("a/wxyz", "wxyz/a", "4 1:0 1:1 1:2 1:3 | 1 1 1 1 5", 3, 1);
        paired("a..wxyz", "wxyz...a", "2:4 1:0 1:1 1:2 1:3 | 1 1 1 1 2", 3, 1);
        // "In the same way (also if lines are kept)" is taken as: changed letters stay in their rows then.
        paired("x", "/y", "4 | 5", 3, 1);
        paired("x", "/y", "3:0 | 3");
        paired("x", "...y/y", "3:0 | 3 5", 3, 1);
        paired("x", "...y/y", "3:1 | 5 3");
    }

    private static void wrongOnes() {
        TextMorph x = Check.of("ab", "c");
        int[][] outside = {{-1, 0}, {2, 0}, {0, -1}, {0, 2}, {1, 1}, {0, 40}, {1, Integer.MAX_VALUE}};
        for (int[] o : outside) {
            Check.refused("letter", IndexOutOfBoundsException.class, x, () -> x.letter(o[0], o[1], 0));
            Check.refused("letter", IndexOutOfBoundsException.class, x, () -> x.letter(o[0], o[1], 6));
        }
        Check.refused("letter, what 6", IllegalArgumentException.class, x, () -> x.letter(0, 0, 6));
        Check.refused("letter, what -1", IllegalArgumentException.class, x, () -> x.letter(0, 0, -1));
    }
}

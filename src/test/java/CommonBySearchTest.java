import java.util.ArrayList;
import java.util.Arrays;
import java.util.List;

/**
 * Promise 11, the common letters of short texts: each sequence that there is, looked at one by one, since the
 * class and the Oracle both build the chosen one up from shorter ones.
 */
public final class CommonBySearchTest {
    private static int[] chosen = {};

    private CommonBySearchTest() {
    }

    public static void main(String[] args) {
        for (String first : texts("ab", 5)) {
            for (String second : texts("ab", 5)) {
                commonPairs(first, second);
            }
        }
        for (String first : texts("abc", 4)) {
            for (String second : texts("abc", 4)) {
                commonPairs(first, second);
            }
        }
        commonPairs("abcabc", "bcabca");
        commonPairs("cabbac", "acbcab");
        Check.end();
    }

    private static List<String> texts(String letters, int most) {
        List<String> all = new ArrayList<>();
        all.add("");
        for (int i = 0; i < all.size(); i++) {
            for (int k = 0; k < letters.length() && all.get(i).length() < most; k++) {
                all.add(all.get(i) + letters.charAt(k));
            }
        }
        return all;
    }

    private static void commonPairs(String first, String second) {
        chosen = new int[] {};
        lookAtAll(first, second, new int[] {});
        StringBuilder due = new StringBuilder();
        for (int pair : chosen) {
            due.append(pair / 100).append(':').append(pair % 100).append(' ');
        }
        TextMorph x = Check.of(first, second);
        StringBuilder got = new StringBuilder();
        for (int i = 0; i < first.length(); i++) {
            if (x.letter(0, i, 4) == 1) {
                got.append(i).append(':').append(x.letter(0, i, 3)).append(' ');
            }
        }
        Check.same("11: common letters of " + first + " and " + second, got.toString(), due.toString());
        Check.same("16: how many of " + first + " and " + second, x.count(3), chosen.length);
    }

    /** Looks at a sequence, then at all that go on from it; a pair is 100 * first + second. */
    private static void lookAtAll(String first, String second, int[] sequence) {
        if (isBefore(sequence, chosen)) {
            chosen = sequence;
        }
        int last = sequence.length == 0 ? -101 : sequence[sequence.length - 1];
        for (int i = last < 0 ? 0 : last / 100 + 1; i < first.length(); i++) {
            for (int j = last < 0 ? 0 : last % 100 + 1; j < second.length(); j++) {
                if (first.charAt(i) == second.charAt(j)) {
                    int[] longer = Arrays.copyOf(sequence, sequence.length + 1);
                    longer[sequence.length] = 100 * i + j;
                    lookAtAll(first, second, longer);
                }
            }
        }
    }

    /** The longer one, or else the one with the lower numbers in the first pair in which they differ. */
    private static boolean isBefore(int[] one, int[] other) {
        if (one.length != other.length) {
            return one.length > other.length;
        }
        return Arrays.compare(one, other) < 0;
    }
}

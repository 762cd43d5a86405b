/** Promises 16 to 21: count, setting, ifSet, best, likeness, digest. */
public final class NumbersTest {
    private static final Class<IndexOutOfBoundsException> INDEX = IndexOutOfBoundsException.class;
    private static final Class<IllegalArgumentException> ARGUMENT = IllegalArgumentException.class;
    private static final int[] LEAST = {1, 0, 0, 0, 0, 0, 0, 0};
    private static final int[] MOST = {9, 200, 200, 1, 2, 9, 20, 20};
    private static final String[] TEXTS = {"", "a", "ab", "ba", "abc/.cab//x.y", "hello.world/foo.bar",
        "..world.hello/bar.foo/xyz", "aaaa/bbbb/cccc/dddd/eeee", "eeee/dddd/cccc/bbbb/aaaa",
        "abcdefghijklmnop/qrstuvwxyz", "ponmlkjihgfedcba", "...............a////a"};

    private NumbersTest() {
    }

    public static void main(String[] args) {
        promise16();
        promise17();
        promise18();
        promise19();
        promise20();
        promise21();
        Check.end();
    }

    private static void counts(String name, TextMorph x, int... due) {
        for (int what = 0; what < due.length; what++) {
            Check.same(name + " count " + what, x.count(what), due[what]);
        }
    }

    private static void promise16() {
        counts("new", new TextMorph(), 5, 0, 0, 0, 0, 0, 0, 0, 0, 0, 0, 0, 0);
        counts("exchange", Check.of("ab", "ba"), 9, 2, 2, 1, 1, 0, 0, 0, 4, 2, 2, 6, 2);
        // a is common, b moves past it, x changes, q vanishes, z appears.
        TextMorph x = Check.of("ab.x///q", "ba.y...............".substring(0, 16) + "////...............z");
        counts("one of each", x, 11, 4, 4, 1, 1, 1, 1, 1, 4, 2, 2, 6, 2);
        counts("rows", Check.of("a", "//.a"), 8, 1, 1, 1, 0, 0, 0, 0, 3, 5, 3, 0, 2);
        Check.refused("count -1", ARGUMENT, x, () -> x.count(-1));
        Check.refused("count 13", ARGUMENT, x, () -> x.count(13));
    }

    private static void promise17() {
        TextMorph x = new TextMorph();
        x.set(7, 20);
        Check.same("setting 7", x.setting(7), 20);
        Check.same("setting 6", x.setting(6), 2);
        Check.same("setting 0", x.setting(0), 2);
        Check.refused("setting -1", INDEX, x, () -> x.setting(-1));
        Check.refused("setting 8", INDEX, x, () -> x.setting(8));
    }

    /** What ifSet tells is what count tells behind set, and nothing is changed by it. */
    private static void promise18() {
        TextMorph x = Check.of("abc/.cab//x.y", "hello.world/foo.bar");
        for (int setting = 0; setting < 8; setting++) {
            for (int value : new int[] {LEAST[setting], MOST[setting], (LEAST[setting] + MOST[setting]) / 2}) {
                TextMorph y = Check.of("abc/.cab//x.y", "hello.world/foo.bar");
                y.set(setting, value);
                long before = x.digest();
                for (int what = 0; what < 12; what++) {
                    Check.same("ifSet " + setting + " " + value + " " + what, x.ifSet(setting, value, what),
                            y.count(what));
                }
                Check.same("ifSet leaves the digest", x.digest(), before);
            }
            int tried = setting;
            Check.refused("ifSet too low", ARGUMENT, x, () -> x.ifSet(tried, LEAST[tried] - 1, 0));
            Check.refused("ifSet too high", ARGUMENT, x, () -> x.ifSet(tried, MOST[tried] + 1, 0));
            Check.refused("ifSet, what 12", ARGUMENT, x, () -> x.ifSet(tried, LEAST[tried], 12));
            Check.refused("ifSet, what -1", ARGUMENT, x, () -> x.ifSet(tried, LEAST[tried], -1));
        }
        Check.same("ifSet 5 0 0", Check.of("ab", "ba").ifSet(5, 0, 0), 6);
        Check.same("ifSet 5 0 11", Check.of("ab", "ba").ifSet(5, 0, 11), 0);
        Check.refused("ifSet 8", INDEX, x, () -> x.ifSet(8, 0, 0));
        Check.refused("ifSet -1", INDEX, x, () -> x.ifSet(-1, 0, 0));
        Check.refused("ifSet 8, all wrong", INDEX, x, () -> x.ifSet(8, -1, 12));
    }

    private static void promise19() {
        for (String first : TEXTS) {
            for (String second : TEXTS) {
                TextMorph x = Check.of(first, second);
                x.set(4, 1);
                long before = x.digest();
                Check.same("best of " + first + " to " + second, x.best(), bestByTrial(x));
                x.undo();
                x.set(4, 1);
                Check.same("best leaves the digest", x.digest(), before);
            }
        }
    }

    /** Tries each way and patience with ifSet behind set, in the order in which equal ones are preferred. */
    private static int bestByTrial(TextMorph x) {
        int best = -1;
        int frames = 0;
        int held = 0;
        for (int way = 0; way < 3; way++) {
            x.undo();
            x.set(4, way);
            for (int patience = 0; patience < 10; patience++) {
                int framesNow = x.ifSet(5, patience, 0);
                int heldNow = x.ifSet(5, patience, 11);
                if (best < 0 || framesNow < frames || framesNow == frames && heldNow < held) {
                    best = 10 * way + patience;
                    frames = framesNow;
                    held = heldNow;
                }
            }
        }
        return best;
    }

    private static void promise20() {
        Check.same("no letters", new TextMorph().likeness(), 1.0);
        Check.same("nothing common", Check.of("a", "b").likeness(), 0.0);
        Check.same("one blank text", Check.of("a", "").likeness(), 0.0);
        Check.same("the same", Check.of("abc", "..abc").likeness(), 1.0);
        Check.same("half", Check.of("ab", "ba").likeness(), 0.5);
        Check.same("a third", Check.of("abcde", "a").likeness(), 2.0 / 6.0);
        Check.same("two sevenths", Check.of("abcdef", "f").likeness(), 2.0 / 7.0);
    }

    private static void promise21() {
        for (String first : TEXTS) {
            for (String second : TEXTS) {
                TextMorph x = Check.of(first, second);
                Check.same("digest of " + first + " to " + second, x.digest(), digestByTheFace(x, ""));
                Check.type(x, "z!");
                Check.same("digest with a buffer", x.digest(), digestByTheFace(x, "z!"));
                x.set(6, 0);
                x.set(7, 0);
                Check.same("digest without holds", x.digest(), digestByTheFace(x, "z!"));
            }
        }
    }

    private static long digestByTheFace(TextMorph x, String buffer) {
        long hash = 2111;
        for (int i = 0; i <= 12; i++) {
            hash = 31 * hash + x.count(i);
        }
        for (int i = 0; i < 8; i++) {
            hash = 31 * hash + x.setting(i);
        }
        for (int text = 0; text < 2; text++) {
            for (int letter = 0; letter < x.count(1 + text); letter++) {
                for (int what = 0; what < 6; what++) {
                    hash = 31 * hash + x.letter(text, letter, what);
                }
            }
        }
        for (int piece = 0; piece < x.count(1); piece++) {
            for (int what = 0; what < 3; what++) {
                hash = 31 * hash + x.way(piece, what);
            }
        }
        for (int frame = 0; frame < x.count(0); frame++) {
            for (int what = 0; what < 5; what++) {
                hash = 31 * hash + x.frame(frame, what);
            }
        }
        for (int cell = 0; cell < 80; cell++) {
            hash = 31 * hash + x.at((x.count(0) - 1) / 2, cell / 16, cell % 16);
        }
        hash = 31 * hash + x.best();
        hash = 31 * hash + Double.doubleToLongBits(x.likeness());
        hash = 31 * hash + buffer.length();
        for (char c : buffer.toCharArray()) {
            hash = 31 * hash + c;
        }
        return hash;
    }
}

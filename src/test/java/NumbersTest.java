/** Promises 16 to 21: count, setting, ifSet, best, likeness, digest. */
public final class NumbersTest {
    private static final String[] TEXTS = {"", "a", "ab", "ba", "abc/.cab//x.y", "hello.world/foo.bar",
        "..world.hello/bar.foo/xyz", "aaaa/bbbb/cccc/dddd/eeee", "eeee/dddd/cccc/bbbb/aaaa",
        "abcdefghijklmnop/qrstuvwxyz", "ponmlkjihgfedcba", "...............a////a"};

    private NumbersTest() {
    }

    public static void main(String[] args) {
        promise16();
        promise17();
        promise18();
        promise19();
        promise20();
        promise21();
        Check.end();
    }

    private static void promise16() {
        Edges.counts("new", new TextMorph(), 5, 0, 0, 0, 0, 0, 0, 0, 0, 0, 0, 0, 0);
        Edges.counts("exchange", Check.of("ab", "ba"), 9, 2, 2, 1, 1, 0, 0, 0, 4, 2, 2, 6, 2);
        // a is common, b moves past it, x changes, q vanishes, z appears.
        TextMorph x = Check.of("ab.x///q", "ba.y...............".substring(0, 16) + "////...............z");
        Edges.counts("one of each", x, 11, 4, 4, 1, 1, 1, 1, 1, 4, 2, 2, 6, 2);
        Edges.counts("rows", Check.of("a", "//.a"), 8, 1, 1, 1, 0, 0, 0, 0, 3, 5, 3, 0, 2);
        Check.refused("count -1", Edges.ARGUMENT, x, () -> x.count(-1));
        Check.refused("count 13", Edges.ARGUMENT, x, () -> x.count(13));
    }

    private static void promise17() {
        TextMorph x = new TextMorph();
        x.set(7, 20);
        Check.same("setting 7", x.setting(7), 20);
        Check.same("setting 6", x.setting(6), 2);
        Check.same("setting 0", x.setting(0), 2);
        Check.refused("setting -1", Edges.INDEX, x, () -> x.setting(-1));
        Check.refused("setting 8", Edges.INDEX, x, () -> x.setting(8));
    }

    /** What ifSet tells is what count tells behind set, and nothing is changed by it. */
    private static void promise18() {
        TextMorph x = Check.of("abc/.cab//x.y", "hello.world/foo.bar");
        for (int setting = 0; setting < 8; setting++) {
            int least = Edges.LEAST[setting];
            int most = Edges.MOST[setting];
            for (int value : new int[] {least, most, (least + most) / 2}) {
                TextMorph y = Check.of("abc/.cab//x.y", "hello.world/foo.bar");
                y.set(setting, value);
                long before = x.digest();
                for (int what = 0; what < 12; what++) {
                    Check.same("ifSet " + setting + " " + value + " " + what, x.ifSet(setting, value, what),
                            y.count(what));
                }
                Check.same("ifSet leaves the digest", x.digest(), before);
            }
            int tried = setting;
            Check.refused("ifSet too low", Edges.ARGUMENT, x, () -> x.ifSet(tried, Edges.LEAST[tried] - 1, 0));
            Check.refused("ifSet too high", Edges.ARGUMENT, x, () -> x.ifSet(tried, Edges.MOST[tried] + 1, 0));
            Check.refused("ifSet, what 12", Edges.ARGUMENT, x, () -> x.ifSet(tried, Edges.LEAST[tried], 12));
            Check.refused("ifSet, what -1", Edges.ARGUMENT, x, () -> x.ifSet(tried, Edges.LEAST[tried], -1));
        }
        Check.same("ifSet 5 0 0", Check.of("ab", "ba").ifSet(5, 0, 0), 6);
        Check.same("ifSet 5 0 11", Check.of("ab", "ba").ifSet(5, 0, 11), 0);
        Check.refused("ifSet 8", Edges.INDEX, x, () -> x.ifSet(8, 0, 0));
        Check.refused("ifSet -1", Edges.INDEX, x, () -> x.ifSet(-1, 0, 0));
        Check.refused("ifSet 8, all wrong", Edges.INDEX, x, () -> x.ifSet(8, -1, 12));
    }

    private static void promise19() {
        for (String first : TEXTS) {
            for (String second : TEXTS) {
                TextMorph x = Check.of(first, second);
                x.set(4, 1);
                long before = x.digest();
                Check.same("best of " + first + " to " + second, x.best(), bestByTrial(x));
                x.undo();
                x.set(4, 1);
                Check.same("best leaves the digest", x.digest(), before);
            }
        }
    }

    /** Tries each way and patience with ifSet behind set, in the order in which equal ones are preferred. */
    private static int bestByTrial(TextMorph x) {
        int best = -1;
        int frames = 0;
        int held = 0;
        for (int way = 0; way < 3; way++) {
            x.undo();
            x.set(4, way);
            for (int patience = 0; patience < 10; patience++) {
                int framesNow = x.ifSet(5, patience, 0);
                int heldNow = x.ifSet(5, patience, 11);
                if (best < 0 || framesNow < frames || framesNow == frames && heldNow < held) {
                    best = 10 * way + patience;
                    frames = framesNow;
                    held = heldNow;
                }
            }
        }
        return best;
    }

    private static void promise20() {
        Check.same("no letters", new TextMorph().likeness(), 1.0);
        Check.same("nothing common", Check.of("a", "b").likeness(), 0.0);
        Check.same("one blank text", Check.of("a", "").likeness(), 0.0);
        Check.same("the same", Check.of("abc", "..abc").likeness(), 1.0);
        Check.same("half", Check.of("ab", "ba").likeness(), 0.5);
        Check.same("a third", Check.of("abcde", "a").likeness(), 2.0 / 6.0);
        Check.same("two sevenths", Check.of("abcdef", "f").likeness(), 2.0 / 7.0);
    }

    private static void promise21() {
        for (String first : TEXTS) {
            for (String second : TEXTS) {
                TextMorph x = Check.of(first, second);
                Check.same("digest of " + first + " to " + second, x.digest(), Edges.digestByTheFace(x, ""));
                Check.type(x, "z!");
                Check.same("digest with a buffer", x.digest(), Edges.digestByTheFace(x, "z!"));
                x.set(6, 0);
                x.set(7, 0);
                Check.same("digest without holds", x.digest(), Edges.digestByTheFace(x, "z!"));
            }
        }
    }
}

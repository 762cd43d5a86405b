import java.util.List;
import java.util.function.Supplier;

/** The edges that promises 16 to 21 name: what is no number, no setting, no value; empty and full; overflow. */
public final class EdgesOfNumbersTest {
    private static final List<Supplier<TextMorph>> OBJECTS = List.of(TextMorph::new, Edges::busy, Edges::full);
    private static final String LOW_FORTY = Edges.forty('a');
    private static final String HIGH_FORTY = "//........" + Edges.times(8, 'b') + "/" + Edges.times(16, 'b') + "/"
            + Edges.times(16, 'b');

    private EdgesOfNumbersTest() {
    }

    public static void main(String[] args) {
        promise16Refused();
        promise16();
        promise17();
        promise18Refused();
        promise18();
        promise18Changes();
        promise19();
        promise20();
        promise21();
        promise21Likeness();
        promise21Middle();
        promise21LastCall();
        Check.end();
    }

    private static void promise16Refused() {
        for (Supplier<TextMorph> made : OBJECTS) {
            for (int what : Edges.outside(0, 12)) {
                Edges.refused("16: count " + what, Edges.ARGUMENT, made, x -> x.count(what));
            }
            for (int what = 0; what <= 12; what++) {
                int asked = what;
                Edges.leaves("16: count " + what, made, x -> x.count(asked));
            }
        }
    }

    private static void promise16() {
        Edges.counts("16: new", new TextMorph(), 5, 0, 0, 0, 0, 0, 0, 0, 0, 0, 0, 0, 0);
        TextMorph x = Edges.withSetting(new TextMorph(), 6, 0, 7, 0);
        Edges.counts("16: a single frame", x, 1, 0, 0, 0, 0, 0, 0, 0, 0, 0, 0, 0, 2);
        Edges.counts("16: full, equal", Check.of(LOW_FORTY, LOW_FORTY), 5, 40, 40, 40, 0, 0, 0, 0, 0, 0, 0, 0, 2);
        Edges.counts("16: full, changed", Edges.full(), 6, 40, 40, 0, 0, 40, 0, 0, 1, 0, 0, 0, 2);
        Edges.counts("16: full, blank", Check.of(LOW_FORTY, ""), 45, 40, 0, 0, 0, 0, 40, 0, 0, 0, 0, 0, 2);
        Edges.counts("16: blank, full", Check.of("", LOW_FORTY), 45, 0, 40, 0, 0, 0, 0, 40, 0, 0, 0, 0, 2);
        x = Edges.withSetting(Check.of(LOW_FORTY, HIGH_FORTY), 2, 0, 6, 20, 7, 20);
        Edges.counts("16: full, apart", x, 121, 40, 40, 0, 0, 0, 40, 40, 0, 0, 0, 0, 5);
        x = Edges.withSetting(Check.of("a", "////...............a"), 0, 9);
        Edges.counts("16: the farthest", x, 24, 1, 1, 1, 0, 0, 0, 0, 19, 51, 19, 0, 3);
        // x vanishes, y appears, b changes into c, both a are common, q is moved.
        // The first a is held three times before q, the second three times before the first, and then before q.
        x = Edges.withSetting(Check.of(".....qaa/b//x", "aa...q/c///y"), 2, 0);
        Edges.counts("16: some of each", x, 19, 5, 5, 2, 1, 1, 1, 1, 12, 12, 12, 9, 3);
        x = Edges.withSetting(Check.of("wxyz/amb", "/bma"), 5, 0);
        Edges.counts("16: behind those that vanish", x, 11, 7, 3, 1, 2, 0, 4, 0, 2, 4, 4, 0, 3);
        x = Check.of("ab", "ba");
        Check.same("16: frames of moving", x.count(8), 4);
        Edges.withBuffer(x, "ab").load(1);
        Edges.counts("16: nothing moves any more", x, 5, 2, 2, 2, 0, 0, 0, 0, 0, 0, 0, 0, 3);
        x.begin();
        Edges.counts("16: nor is there anything", x, 5, 0, 0, 0, 0, 0, 0, 0, 0, 0, 0, 0, 4);
        x = Check.of("ab", "ba");
        for (int saved = 3; saved <= 9; saved++) {
            x.set(0, saved);
            Check.same("16: saved states", x.count(12), Math.min(saved, 6));
        }
    }

    private static void promise17() {
        for (Supplier<TextMorph> made : OBJECTS) {
            for (int setting : Edges.outside(0, 7)) {
                Edges.refused("17: setting " + setting, Edges.INDEX, made, x -> x.setting(setting));
            }
            for (int setting = 0; setting <= 7; setting++) {
                int asked = setting;
                Edges.leaves("17: setting " + setting, made, x -> x.setting(asked));
            }
        }
        TextMorph x = new TextMorph();
        for (int setting = 0; setting <= 7; setting++) {
            Check.same("17: at first", x.setting(setting), Edges.AT_FIRST[setting]);
            x.set(setting, Edges.LEAST[setting]);
            Check.same("17: the least", x.setting(setting), Edges.LEAST[setting]);
            x.set(setting, Edges.MOST[setting]);
            Check.same("17: the most", x.setting(setting), Edges.MOST[setting]);
        }
    }

    private static void promise18Refused() {
        for (Supplier<TextMorph> made : OBJECTS) {
            for (int setting : Edges.outside(0, 7)) {
                Edges.refused("18: setting " + setting, Edges.INDEX, made, x -> x.ifSet(setting, 1, 0));
                Edges.refused("18: setting " + setting + ", all wrong", Edges.INDEX, made,
                        x -> x.ifSet(setting, -1, 12));
            }
            for (int what : Edges.outside(0, 11)) {
                Edges.refused("18: what " + what, Edges.ARGUMENT, made, x -> x.ifSet(0, 1, what));
                Edges.refused("18: what " + what + ", wrong value", Edges.ARGUMENT, made, x -> x.ifSet(0, 0, what));
            }
        }
        Edges.refused("18: saved states are not told", Edges.ARGUMENT, Edges::busy, x -> x.ifSet(7, 20, 12));
        for (int setting = 0; setting <= 7; setting++) {
            int tried = setting;
            for (int value : Edges.outside(Edges.LEAST[setting], Edges.MOST[setting])) {
                Edges.refused("18: value " + value, Edges.ARGUMENT, Edges::busy, x -> x.ifSet(tried, value, 0));
            }
        }
    }

    private static void tellsAs(String name, Supplier<TextMorph> made, int setting, int value) {
        TextMorph set = made.get();
        set.set(setting, value);
        for (int what = 0; what <= 11; what++) {
            int asked = what;
            Edges.leaves("18: ifSet", made, x -> Check.same("18: " + name + " ifSet " + setting + " " + value + " "
                    + asked, x.ifSet(setting, value, asked), set.count(asked)));
        }
    }

    private static void promise18() {
        List<Supplier<TextMorph>> objects = List.of(TextMorph::new, Edges::busy, Edges::full,
                () -> Check.of("ab/wxyz", "wxyz/ca"), () -> Check.of(LOW_FORTY, HIGH_FORTY));
        for (Supplier<TextMorph> made : objects) {
            for (int setting = 0; setting <= 7; setting++) {
                tellsAs("the least", made, setting, Edges.LEAST[setting]);
                tellsAs("the most", made, setting, Edges.MOST[setting]);
                tellsAs("as it is", made, setting, made.get().setting(setting));
            }
        }
    }

    private static void promise18Changes() {
        TextMorph x = Check.of("ab", "ba");
        Check.same("18: frames without patience", x.ifSet(5, 0, 0), 6);
        Check.same("18: frames with the most", x.ifSet(5, 9, 0), 15);
        Check.same("18: frames as they are", x.count(0), 9);
        Check.same("18: frames with no hold", x.ifSet(6, 0, 0), 7);
        Check.same("18: frames with the longest hold", x.ifSet(6, 20, 0), 27);
        Check.same("18: held at the end", x.ifSet(7, 20, 0), 27);
        Check.same("18: the setting stays", x.setting(7), 2);
        Check.same("18: nothing is saved", x.count(12), 2);
        x.set(5, 0);
        Check.same("18: with what is set now", x.ifSet(6, 0, 0), 4);
        x.undo();
        Check.same("18: with what is restored", x.ifSet(6, 0, 0), 7);
        x.put(0, 0, 0, 32);
        Check.same("18: with the text as it is now", x.ifSet(6, 0, 1), 1);
    }

    private static void promise19() {
        for (Supplier<TextMorph> made : OBJECTS) {
            Edges.leaves("19: best", made, x -> Check.same("19: best", x.best(), 0));
        }
        // With the patience 0 no piece is held, so nothing has fewer frames than 0 has.
        TextMorph x = Edges.withSetting(Check.of("ab", "ba"), 4, 2, 5, 9);
        Check.same("19: best of an exchange", x.best(), 0);
        Check.same("19: the way stays", x.setting(4), 2);
        Check.same("19: the patience stays", x.setting(5), 9);
        Check.same("19: frames stay", x.count(0), 15);
        Check.same("19: best of changed ones", Check.of("a", "b").best(), 0);
        Check.same("19: best of those that vanish and appear", Check.of(LOW_FORTY, HIGH_FORTY).best(), 0);
    }

    private static void promise20() {
        for (Supplier<TextMorph> made : OBJECTS) {
            Edges.leaves("20: likeness", made, TextMorph::likeness);
        }
        Check.same("20: no letters", new TextMorph().likeness(), 1.0);
        Check.same("20: no second text", Check.of("a", "").likeness(), 0.0);
        Check.same("20: no first text", Check.of("", "a").likeness(), 0.0);
        Check.same("20: eighty letters, all common", Check.of(LOW_FORTY, LOW_FORTY).likeness(), 1.0);
        Check.same("20: eighty letters, none common", Edges.full().likeness(), 0.0);
        Check.same("20: eighty letters, one common",
                Check.of(LOW_FORTY, "a" + Edges.forty('b').substring(1)).likeness(), 2.0 / 80.0);
        Check.same("20: forty and one", Check.of(LOW_FORTY, "a").likeness(), 2.0 / 41.0);
        Check.same("20: moved and changed ones do not count", Check.of("abc", "cad").likeness(), 2.0 / 6.0);
        TextMorph x = Check.of("ab", "a");
        x.likeness();
        x.begin();
        Check.same("20: no letters any more", x.likeness(), 1.0);
    }

    private static void promise21() {
        // Worked out apart from Java, in arithmetic modulo 2 to the 64th.
        Check.same("21: new", new TextMorph().digest(), -3686889705519250921L);
        for (Supplier<TextMorph> made : OBJECTS) {
            for (String buffer : new String[] {"", "!", "~", Edges.times(60, '~'), Edges.times(60, '!')}) {
                TextMorph x = Edges.withBuffer(made.get(), buffer);
                Check.same("21: digest with " + buffer, x.digest(), Edges.digestByTheFace(x, buffer));
            }
            Edges.leaves("21: digest", made, TextMorph::digest);
        }
        for (String[] texts : new String[][] {{LOW_FORTY, ""}, {"", LOW_FORTY}, {LOW_FORTY, LOW_FORTY},
            {LOW_FORTY, HIGH_FORTY}, {HIGH_FORTY, LOW_FORTY}, {"a", "////...............a"}}) {
            TextMorph x = Check.of(texts[0], texts[1]);
            Check.same("21: digest", x.digest(), Edges.digestByTheFace(x, ""));
            Edges.withSetting(x, 5, 9, 6, 20, 7, 20, 0, 9, 2, 200);
            Check.same("21: digest of the most", x.digest(), Edges.digestByTheFace(x, ""));
        }
        Check.same("21: a cleared buffer is an empty one", Edges.withBuffer(Check.of("ab", "c"), "").digest(),
                Check.of("ab", "c").digest());
        TextMorph x = Edges.withBuffer(new TextMorph(), "ab");
        Check.holds("21: the signs count", x.digest() != Edges.withBuffer(new TextMorph(), "ba").digest());
    }

    /** Each likeness that there is: the bits are put together without Double. */
    private static void promise21Likeness() {
        for (int letters = 1; letters <= 80; letters++) {
            for (int common = 0; 2 * common <= letters; common++) {
                int first = Math.min(40, letters - common);
                TextMorph x = new TextMorph();
                Edges.withBuffer(x, cells(common, first - common, 'x')).load(0);
                Edges.withBuffer(x, cells(common, letters - first - common, 'y')).load(1);
                Edges.withSetting(x, 2, 200, 6, 0, 7, 0);
                Check.same("21: likeness", x.likeness(), 2.0 * common / letters);
                Check.same("21: digest, likeness " + common + " of " + letters, x.digest(),
                        Edges.digestByTheFace(x, ""));
            }
        }
    }

    private static String cells(int common, int others, char other) {
        String all = Edges.times(common, 'c') + Edges.times(others, other);
        StringBuilder rows = new StringBuilder();
        for (int i = 0; i < all.length(); i++) {
            rows.append(i > 0 && i % 16 == 0 ? "/" : "").append(all.charAt(i));
        }
        return rows.toString();
    }

    /** "The frame (count(0) - 1) / 2", truncated, of odd and even numbers of frames. */
    private static void promise21Middle() {
        TextMorph x = Edges.withSetting(Check.of("a", "....a"), 6, 0);
        for (int hold = 0; hold <= 20; hold++) {
            x.set(7, hold);
            Check.same("21: middle, hold " + hold, x.digest(), Edges.digestByTheFace(x, ""));
        }
        x = Edges.withSetting(Check.of("a", "a"), 6, 0, 7, 0);
        Check.same("21: the only frame", x.digest(), Edges.digestByTheFace(x, ""));
    }

    /** "An object is used for at most 512 calls": the last one is answered as the first ones are. */
    private static void promise21LastCall() {
        TextMorph old = new TextMorph();
        for (int call = 1; call <= 496; call++) {
            switch (call % 8) {
                case 0:
                    old.put(0, call % 5, call % 16, 'a' + call % 26);
                    break;
                case 1:
                    old.put(1, call % 5, call % 16, 'a' + call % 26);
                    break;
                case 2:
                    old.swap();
                    break;
                case 3:
                    old.digest();
                    break;
                case 4:
                    old.set(5, call % 10);
                    break;
                case 5:
                    old.undo();
                    break;
                case 6:
                    old.append('a');
                    break;
                default:
                    old.begin();
                    break;
            }
            // Seven calls more.
            if (call % 64 == 0) {
                old.clearBuffer();
            }
        }
        TextMorph young = new TextMorph();
        old.clearBuffer();
        for (TextMorph x : new TextMorph[] {old, young}) {
            x.begin();
            for (int weight = 1; weight <= 6; weight++) {
                x.set(0, weight);
            }
        }
        Check.same("21: the 512th call", old.digest(), young.digest());
    }
}

/** Promises 1 to 7: a new object, begin, set, load, put, swap, undo. */
public final class ChangesTest {
    private ChangesTest() {
    }

    public static void main(String[] args) {
        promise1();
        promise2();
        promise3();
        promise4();
        promise5();
        promise6();
        promise7();
        savedStates();
        Check.end();
    }

    private static void settingsAtFirst(String when, TextMorph x) {
        for (int setting = 0; setting < 8; setting++) {
            Check.same(when + " setting " + setting, x.setting(setting), Edges.AT_FIRST[setting]);
        }
    }

    private static void promise1() {
        TextMorph x = new TextMorph();
        Check.same("NONE", TextMorph.NONE, -1);
        settingsAtFirst("new", x);
        Check.same("new letters", x.count(1) + x.count(2), 0);
        Check.same("new frames", x.count(0), 5);
        Check.same("new saved", x.count(12), 0);
        Check.same("new buffer", x.clearBuffer(), 0);
        Check.same("new picture", Check.picture(x, 4), "");
    }

    private static void promise2() {
        TextMorph x = Check.of("ab/c", "de");
        for (int setting = 0; setting < 8; setting++) {
            x.set(setting, Edges.MOST[setting]);
        }
        Check.type(x, "xyz");
        Check.same("begin", x.begin(), 5);
        Check.same("begin, first text", x.count(1), 0);
        Check.same("begin, second text", x.count(2), 0);
        settingsAtFirst("begin", x);
        Check.same("begin saves", x.count(12), 6);
        Check.same("begin leaves the buffer", x.clearBuffer(), 3);
        Check.same("begin of blanks", x.begin(), 0);
        Check.same("undo", x.undo(), 5);
        Check.same("undo", x.undo(), 4);
        Check.same("begin undone", x.count(1), 3);
        Check.same("begin undone, settings", x.setting(6), 20);
    }

    private static void promise3() {
        TextMorph x = Check.of("ab", "ba");
        for (int setting = 0; setting < 8; setting++) {
            int tried = setting;
            Check.refused("set " + setting + " too low", Edges.ARGUMENT, x, () -> x.set(tried, Edges.LEAST[tried] - 1));
            Check.refused("set " + setting + " too high", Edges.ARGUMENT, x, () -> x.set(tried, Edges.MOST[tried] + 1));
            Check.same("set " + setting + " to the least", x.set(setting, Edges.LEAST[setting]),
                    Edges.AT_FIRST[setting]);
            Check.same("setting " + setting, x.setting(setting), Edges.LEAST[setting]);
            Check.same("set " + setting + " to the most", x.set(setting, Edges.MOST[setting]), Edges.LEAST[setting]);
            Check.same("setting " + setting, x.setting(setting), Edges.MOST[setting]);
            Check.same("set " + setting + " back", x.set(setting, Edges.AT_FIRST[setting]), Edges.MOST[setting]);
        }
        Check.refused("set -1", Edges.INDEX, x, () -> x.set(-1, 1));
        Check.refused("set 8", Edges.INDEX, x, () -> x.set(8, 1));
        Check.refused("set 8 to nothing", Edges.INDEX, x, () -> x.set(8, -5));
        Check.same("count takes the setting", x.count(0), 9);
        x.set(6, 20);
        Check.same("count takes the setting", x.count(0), 27);
    }

    private static void promise4() {
        TextMorph x = new TextMorph();
        Check.type(x, "a.b//....c");
        Check.same("load 0", x.load(0), 3);
        Check.same("the rows", Check.picture(x, 0), "a.b//....c");
        Check.same("load clears", x.clearBuffer(), 0);
        Check.type(x, "0123456789012345".replaceAll("[0-9]", "z") + "/");
        Check.same("load 1", x.load(1), 16);
        Check.same("the second text", x.count(2), 16);
        Check.same("the first text", x.count(1), 3);
        Check.same("load replaces", x.load(0), 0);
        Check.same("load replaces", x.count(1), 0);
        Check.type(x, "ab!");
        Check.refused("load of an error", Edges.ARGUMENT, x, () -> x.load(0));
        Check.refused("load -1", Edges.INDEX, x, () -> x.load(-1));
        Check.refused("load 2", Edges.INDEX, x, () -> x.load(2));
        Check.same("buffer is left", x.clearBuffer(), 3);
        Check.same("saved", x.count(12), 3);
    }

    private static void promise5() {
        TextMorph x = new TextMorph();
        Check.same("put a", x.put(0, 0, 0, 'a'), 32);
        Check.same("put z", x.put(1, 4, 15, 'z'), 32);
        Check.same("put b over a", x.put(0, 0, 0, 'b'), 'a');
        Check.same("first", x.letter(0, 0, 2), 'b');
        Check.same("second", 16 * x.letter(1, 0, 0) + x.letter(1, 0, 1), 79);
        Check.same("put a blank", x.put(1, 4, 15, 32), 'z');
        Check.same("second text", x.count(2), 0);
        Check.same("put a blank on a blank", x.put(1, 4, 15, 32), 32);
        Check.same("saved", x.count(12), 5);
        int[][] outside = {{-1, 0, 0}, {2, 0, 0}, {0, -1, 0}, {0, 5, 0}, {0, 0, -1}, {0, 0, 16}};
        for (int[] o : outside) {
            Check.refused("put outside", Edges.INDEX, x, () -> x.put(o[0], o[1], o[2], 'a'));
            Check.refused("put nothing outside", Edges.INDEX, x, () -> x.put(o[0], o[1], o[2], 0));
        }
        for (int code : new int[] {-1, 0, 31, 33, 46, 'A', 'a' - 1, 'z' + 1, 'a' + 256}) {
            Check.refused("put " + code, Edges.ARGUMENT, x, () -> x.put(0, 0, 0, code));
        }
        fillTo40(x);
        Check.same("40 letters", x.count(1), 40);
        Check.refused("a 41st letter", Edges.STATE, x, () -> x.put(0, 2, 8, 'q'));
        Check.refused("no letter, as a 41st", Edges.ARGUMENT, x, () -> x.put(0, 2, 8, 'Q'));
        Check.refused("a 41st nowhere", Edges.INDEX, x, () -> x.put(0, 5, 8, 'q'));
        Check.same("another letter", x.put(0, 2, 7, 'r'), 'q');
        Check.same("blank beside", x.put(0, 2, 8, 32), 32);
        Check.same("the other text", x.put(1, 2, 8, 'q'), 32);
        Check.same("one less", x.put(0, 0, 0, 32), 'q');
        Check.same("one more", x.put(0, 2, 8, 'q'), 32);
    }

    private static void fillTo40(TextMorph x) {
        for (int cell = 0; cell < 40; cell++) {
            x.put(0, cell / 16, cell % 16, 'q');
        }
    }

    private static void promise6() {
        TextMorph x = Check.of("abc", "...d/...e");
        x.set(2, 0);
        Check.same("frames before", x.count(0), 10);
        x.set(6, 0);
        Check.same("swap", x.swap(), 8);
        Check.same("first now", Check.picture(x, 0), "...d/...e");
        Check.same("second now", Check.picture(x, 7), "abc");
        Check.same("settings stay", x.setting(6), 0);
        Check.same("swap saves", x.count(12), 5);
        Check.same("swap undone", x.undo(), 4);
        Check.same("first again", Check.picture(x, 0), "abc");
        Check.same("frames differ by direction", Check.of("ab", ".ab").count(8), 2);
        TextMorph y = Check.of("ab", ".ab");
        Check.same("swap tells the frames then", y.swap(), 6);
    }

    private static void promise7() {
        TextMorph x = new TextMorph();
        Check.refused("undo of nothing", Edges.STATE, x, x::undo);
        x.put(0, 0, 0, 'a');
        x.set(6, 7);
        Check.type(x, "bb");
        x.load(1);
        Check.type(x, "c");
        Check.same("undo the load", x.undo(), 2);
        Check.same("second text", x.count(2), 0);
        Check.same("undo leaves the buffer", x.clearBuffer(), 1);
        Check.same("hold", x.setting(6), 7);
        Check.same("undo the set", x.undo(), 1);
        Check.same("hold", x.setting(6), 2);
        Check.same("letter", x.letter(0, 0, 2), 'a');
        Check.same("undo the put", x.undo(), 0);
        Check.same("first text", x.count(1), 0);
        Check.refused("undo of nothing", Edges.STATE, x, x::undo);
    }

    private static void savedStates() {
        TextMorph x = new TextMorph();
        for (int value = 1; value <= 9; value++) {
            x.set(0, value);
            Check.same("saved", x.count(12), Math.min(value, 6));
        }
        for (int left = 5; left >= 0; left--) {
            Check.same("undo", x.undo(), left);
            Check.same("weight", x.setting(0), 3 + left);
        }
        Check.refused("the oldest are dropped", Edges.STATE, x, x::undo);
        Check.same("same value", x.set(0, 3), 3);
        Check.same("saves all the same", x.count(12), 1);
        x.best();
        x.digest();
        x.ifSet(0, 9, 0);
        x.append('a');
        x.firstError();
        x.clearBuffer();
        Check.same("the others do not save", x.count(12), 1);
    }
}

import java.util.function.Supplier;

/** The edges that promises 8 to 10 name: characters, a full and an empty buffer, each syntax error. */
public final class EdgesOfBufferTest {
    private EdgesOfBufferTest() {
    }

    public static void main(String[] args) {
        promise8Codes();
        promise8Full();
        promise9();
        promise10Signs();
        promise10Rows();
        promise10Letters();
        promise10First();
        Check.end();
    }

    private static TextMorph fullBuffer() {
        return Edges.withBuffer(Check.of("ab", "c"), Edges.times(60, '!'));
    }

    private static void promise8Codes() {
        TextMorph x = new TextMorph();
        for (int code = 33; code <= 92; code++) {
            Check.same("8: append " + code, x.append(code), code - 32);
        }
        x.clearBuffer();
        for (int code = 93; code <= 126; code++) {
            Check.same("8: append " + code, x.append(code), code - 92);
        }
        Check.same("8: all are kept", x.digest(), Edges.digestByTheFace(x, "]^_`abcdefghijklmnopqrstuvwxyz{|}~"));
        for (int code : Edges.outside(33, 126)) {
            Edges.refused("8: append " + code, Edges.ARGUMENT, Edges::busy, y -> y.append(code));
            Edges.refused("8: append " + code, Edges.ARGUMENT, TextMorph::new, y -> y.append(code));
        }
        Edges.refused("8: append a blank", Edges.ARGUMENT, TextMorph::new, y -> y.append(32));
        Edges.refused("8: append 127", Edges.ARGUMENT, TextMorph::new, y -> y.append(127));
        Edges.refused("8: append 0", Edges.ARGUMENT, TextMorph::new, y -> y.append(0));
        Edges.refused("8: append -1", Edges.ARGUMENT, TextMorph::new, y -> y.append(-1));
    }

    private static void promise8Full() {
        TextMorph x = new TextMorph();
        for (int length = 1; length <= 60; length++) {
            Check.same("8: the new length", x.append('z'), length);
        }
        Edges.refused("8: a 61st", Edges.STATE, EdgesOfBufferTest::fullBuffer, y -> y.append('a'));
        Edges.refused("8: a 61st, the lowest", Edges.STATE, EdgesOfBufferTest::fullBuffer, y -> y.append(33));
        Edges.refused("8: a 61st, the highest", Edges.STATE, EdgesOfBufferTest::fullBuffer, y -> y.append(126));
        Edges.refused("8: too low and too many", Edges.ARGUMENT, EdgesOfBufferTest::fullBuffer, y -> y.append(32));
        Edges.refused("8: too high and too many", Edges.ARGUMENT, EdgesOfBufferTest::fullBuffer, y -> y.append(127));
        x.clearBuffer();
        Check.same("8: room again", x.append('a'), 1);
        for (int length = 2; length <= 60; length++) {
            x.append('/');
        }
        Edges.refused("8: full by slashes", Edges.STATE,
                () -> Edges.withBuffer(new TextMorph(), Edges.times(60, '/')), y -> y.append('a'));
    }

    private static void promise9() {
        TextMorph x = new TextMorph();
        Check.same("9: an empty buffer", x.clearBuffer(), 0);
        x = fullBuffer();
        Check.same("9: a full buffer", x.clearBuffer(), 60);
        Check.same("9: it is empty then", x.clearBuffer(), 0);
        Check.same("9: no error then", x.firstError(), 0);
        Check.same("9: one", x.append('b'), 1);
        Check.same("9: the length that it had", x.clearBuffer(), 1);
        Check.same("9: what was there before is gone", Edges.withBuffer(x, "z").load(0), 1);
        Edges.leaves("9: clear an empty buffer", () -> Check.of("ab", "c"), TextMorph::clearBuffer);
        TextMorph y = Edges.busy();
        y.clearBuffer();
        Check.same("9: no text, no setting, no saved state", Edges.states(y).toString(),
                Edges.states(Edges.busy()).toString());
    }

    private static void errorAt(String name, String buffer, int due) {
        Supplier<TextMorph> made = () -> Edges.withBuffer(Edges.busy(), buffer);
        Edges.leaves("10: " + name, made, x -> Check.same("10: " + name, x.firstError(), due));
        if (due < buffer.length()) {
            Edges.refused("10: load, " + name, Edges.ARGUMENT, made, x -> x.load(0));
        } else {
            Check.same("10: load, " + name, made.get().load(0), buffer.replaceAll("[^a-z]", "").length());
        }
    }

    /** Each character that can be appended is a letter, "." or "/", or else an error. */
    private static void promise10Signs() {
        errorAt("nothing", "", 0);
        for (int code = 33; code <= 126; code++) {
            boolean fits = code >= 'a' && code <= 'z' || code == '.' || code == '/';
            errorAt("the sign " + code, String.valueOf((char) code), fits ? 1 : 0);
            errorAt("the sign " + code + " behind others", "a./" + (char) code, fits ? 4 : 3);
        }
        String rows = (Edges.times(16, '.') + "/").repeat(3);
        errorAt("sixty right signs", rows + Edges.times(9, '.'), 60);
        errorAt("the last of sixty", rows + Edges.times(8, '.') + "~", 59);
    }

    private static void promise10Rows() {
        errorAt("sixteen letters", Edges.times(16, 'a'), 16);
        errorAt("a 17th letter", Edges.times(17, 'a'), 16);
        errorAt("sixteen blanks", Edges.times(16, '.'), 16);
        errorAt("a 17th blank", Edges.times(17, '.'), 16);
        errorAt("a letter behind sixteen blanks", Edges.times(16, '.') + "a", 16);
        errorAt("a blank behind sixteen letters", Edges.times(16, 'a') + ".", 16);
        errorAt("a slash behind sixteen cells", Edges.times(16, 'a') + "/", 17);
        errorAt("sixteen in each of two rows", Edges.times(16, 'a') + "/" + Edges.times(16, 'b'), 33);
        errorAt("a 17th cell of the second row", Edges.times(16, 'a') + "/" + Edges.times(17, 'b'), 33);
        errorAt("a 17th cell of the last row", "////" + Edges.times(17, 'a'), 20);
        errorAt("sixteen cells of the last row", "////" + Edges.times(16, 'a'), 20);
        errorAt("a slash behind the full last row", "////" + Edges.times(16, 'a') + "/", 20);
        errorAt("four slashes", "////", 4);
        errorAt("a fifth slash", "/////", 4);
        errorAt("a fifth slash behind letters", "a/b/c/d/e/", 9);
        errorAt("three slashes and a letter", "///a", 4);
        errorAt("slashes alone", Edges.times(60, '/'), 4);
    }

    private static void promise10Letters() {
        String forty = Edges.forty('a');
        errorAt("forty letters", forty, 42);
        errorAt("a 41st", forty + "a", 42);
        errorAt("a blank behind forty", forty + ".", 43);
        errorAt("a slash behind forty", forty + "/", 43);
        errorAt("a 41st in the next row", forty + "/a", 43);
        errorAt("a 41st behind blanks", forty + "/...a", 46);
        errorAt("thirty-nine and blanks", forty.substring(1) + "..a", 44);
        errorAt("the fortieth behind a slash", forty.substring(1) + "/b", 43);
        errorAt("the 41st behind a slash", forty.substring(1) + "/bc", 43);
    }

    /** "The index of the first character that is a syntax error", of several kinds at once. */
    private static void promise10First() {
        errorAt("a sign before a 17th cell", "!" + Edges.times(17, 'a'), 0);
        errorAt("a 17th cell before a sign", Edges.times(17, 'a') + "!", 16);
        errorAt("a sign before a fifth slash", "a-/////", 1);
        errorAt("a fifth slash before a sign", "/////-", 4);
        errorAt("two signs", "ab--", 2);
        TextMorph x = Edges.withBuffer(new TextMorph(), "ab");
        Check.same("10: no error yet", x.firstError(), 2);
        x.append('-');
        Check.same("10: one now", x.firstError(), 2);
        x.append('c');
        Check.same("10: it stays the first", x.firstError(), 2);
        x.clearBuffer();
        Check.same("10: none any more", x.firstError(), 0);
    }
}

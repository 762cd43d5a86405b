/** Promises 8 to 10: append, clearBuffer, firstError. */
public final class BufferTest {
    private BufferTest() {
    }

    public static void main(String[] args) {
        promise8();
        promise9();
        promise10();
        Check.end();
    }

    private static void promise8() {
        TextMorph x = new TextMorph();
        Check.same("append 33", x.append(33), 1);
        Check.same("append 126", x.append(126), 2);
        for (int code : new int[] {-1, 0, 32, 127, 97 + 256, Integer.MAX_VALUE, Integer.MIN_VALUE}) {
            Check.refused("append " + code, IllegalArgumentException.class, x, () -> x.append(code));
        }
        for (int length = 3; length <= 60; length++) {
            Check.same("append", x.append('a'), length);
        }
        Check.refused("a 61st", IllegalStateException.class, x, () -> x.append('a'));
        Check.refused("a wrong 61st", IllegalArgumentException.class, x, () -> x.append(32));
        Check.same("append does not save", x.count(12), 0);
    }

    private static void promise9() {
        TextMorph x = new TextMorph();
        Check.same("clear nothing", x.clearBuffer(), 0);
        Check.type(x, "abc!");
        Check.same("clear", x.clearBuffer(), 4);
        Check.same("cleared", x.clearBuffer(), 0);
        Check.same("append then", x.append('z'), 1);
        Check.same("load then", x.load(0), 1);
    }

    private static void errorAt(String text, int due) {
        TextMorph x = new TextMorph();
        Check.type(x, text);
        Check.same("firstError of " + text, x.firstError(), due);
        Check.same("firstError leaves the buffer " + text, x.clearBuffer(), text.length());
    }

    private static void promise10() {
        String sixteen = "abcdefghijklmnop";
        errorAt("", 0);
        errorAt("abc", 3);
        errorAt("a.z/..", 6);
        errorAt("////", 4);
        errorAt("/////", 4);
        errorAt("a/b/c/d/e/f", 9);
        errorAt(sixteen, 16);
        errorAt(sixteen + "q", 16);
        errorAt(sixteen + ".", 16);
        errorAt(sixteen + "/a", 18);
        errorAt("................", 16);
        errorAt(".................", 16);
        errorAt("a-b", 1);
        errorAt("A", 0);
        errorAt("ab`", 2);
        errorAt("ab{", 2);
        errorAt("!!", 0);
        errorAt("-" + sixteen + "q", 0);
        errorAt(sixteen + "/" + sixteen + "/abcdefgh", 42);
        errorAt(sixteen + "/" + sixteen + "/abcdefghi", 42);
        errorAt(sixteen + "/" + sixteen + "/abcdefgh....", 46);
        errorAt(sixteen + "/" + sixteen + "/abcdefgh/.i", 44);
    }
}

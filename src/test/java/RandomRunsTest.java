import java.util.Random;
import java.util.function.LongSupplier;

/** Long runs of calls, picked by a seeded series, each answered by TextMorph as by the Oracle. */
public final class RandomRunsTest {
    private final Random random;
    private final TextMorph morph = new TextMorph();
    private final Oracle oracle = new Oracle();
    private final String alphabet;
    private final boolean wrongOnes;
    private final int density;

    private RandomRunsTest(int seed) {
        random = new Random(seed);
        String[] alphabets = {"a", "ab", "abc", "abcdefgh", "abcdefghijklmnopqrstuvwxyz"};
        alphabet = alphabets[random.nextInt(alphabets.length)];
        wrongOnes = random.nextInt(3) > 0;
        density = 2 + random.nextInt(9);
    }

    public static void main(String[] args) {
        for (int seed = 1; seed <= 600; seed++) {
            new RandomRunsTest(seed).play("seed " + seed, 40 + seed % 80);
        }
        for (int seed = 601; seed <= 630; seed++) {
            new RandomRunsTest(seed).play("seed " + seed, 512);
        }
        Check.end();
    }

    private static String answer(LongSupplier call) {
        try {
            return Long.toString(call.getAsLong());
        } catch (RuntimeException e) {
            return e.getClass().getName();
        }
    }

    private void both(String call, LongSupplier got, LongSupplier due) {
        Check.same(call, answer(got), answer(due));
    }

    /** A number of 0 to most, and now and then one that is just or far outside. */
    private int pick(int most) {
        if (wrongOnes && random.nextInt(25) == 0) {
            int[] outside = {-1, most + 1, Integer.MIN_VALUE, Integer.MAX_VALUE};
            return outside[random.nextInt(4)];
        }
        return random.nextInt(most + 1);
    }

    private char pickLetter() {
        return alphabet.charAt(random.nextInt(alphabet.length()));
    }

    private void play(String run, int calls) {
        int made = 0;
        while (made < calls) {
            String name = run + " call " + made;
            int kind = random.nextInt(14);
            if (kind == 0 && calls - made > 61) {
                made += typeAndLoad(name);
            } else if (kind < 5) {
                change(name);
                made++;
            } else {
                ask(name);
                made++;
            }
        }
        both(run + " digest at the end", morph::digest, oracle::digest);
    }

    private int typeAndLoad(String name) {
        StringBuilder signs = new StringBuilder();
        int length = random.nextInt(62);
        for (int i = 0; i < length; i++) {
            int kind = random.nextInt(density + 3);
            signs.append(kind == 0 && random.nextInt(3) > 0 ? '/' : kind <= 2 ? '.' : pickLetter());
        }
        if (wrongOnes && random.nextInt(4) == 0 && length > 0) {
            signs.setCharAt(random.nextInt(length), (char) (31 + random.nextInt(98)));
        }
        for (int i = 0; i < length; i++) {
            int code = signs.charAt(i);
            both(name + " append " + code, () -> morph.append(code), () -> oracle.append(code));
        }
        both(name + " firstError", morph::firstError, oracle::firstError);
        int text = pick(1);
        both(name + " load " + text, () -> morph.load(text), () -> oracle.load(text));
        if (oracle.firstError() > 0 && random.nextBoolean()) {
            both(name + " clearBuffer", morph::clearBuffer, oracle::clearBuffer);
        }
        return length + 3;
    }

    private void change(String name) {
        int a = pick(1);
        int b = pick(4);
        int c = pick(15);
        switch (random.nextInt(16)) {
            case 0:
                if (random.nextInt(8) == 0) {
                    both(name + " begin", morph::begin, oracle::begin);
                }
                break;
            case 1, 2:
                both(name + " swap", morph::swap, oracle::swap);
                break;
            case 3, 4:
                both(name + " undo", morph::undo, oracle::undo);
                break;
            case 5, 6, 7, 8:
                int[] most = {9, 200, 200, 1, 2, 9, 20, 20};
                int setting = pick(7);
                int value = pick(setting < 0 || setting > 7 ? 3 : random.nextBoolean() ? most[setting]
                        : Math.min(20, most[setting]));
                both(name + " set " + setting + " " + value, () -> morph.set(setting, value),
                        () -> oracle.set(setting, value));
                break;
            case 9:
                int sign = wrongOnes && random.nextInt(3) == 0 ? random.nextInt(140) : pickLetter();
                both(name + " append " + sign, () -> morph.append(sign), () -> oracle.append(sign));
                break;
            default:
                int code = random.nextInt(4) == 0 ? 32
                        : wrongOnes && random.nextInt(12) == 0 ? random.nextInt(130) : pickLetter();
                both(name + " put " + a + " " + b + " " + c + " " + code, () -> morph.put(a, b, c, code),
                        () -> oracle.put(a, b, c, code));
                break;
        }
    }

    private void ask(String name) {
        int frame = pick(oracle.count(0) - 1);
        int piece = pick(Math.max(0, oracle.count(1) - 1));
        switch (random.nextInt(11)) {
            case 0:
                int text = pick(1);
                int letter = pick(Math.max(0, oracle.count(text == 1 ? 2 : 1) - 1));
                int what = pick(5);
                both(name + " letter " + text + " " + letter + " " + what, () -> morph.letter(text, letter, what),
                        () -> oracle.letter(text, letter, what));
                break;
            case 1:
                int ofWay = pick(2);
                both(name + " way " + piece + " " + ofWay, () -> morph.way(piece, ofWay),
                        () -> oracle.way(piece, ofWay));
                break;
            case 2:
                int row = pick(4);
                int column = pick(15);
                both(name + " at " + frame + " " + row + " " + column, () -> morph.at(frame, row, column),
                        () -> oracle.at(frame, row, column));
                break;
            case 3:
                both(name + " place " + frame + " " + piece, () -> morph.place(frame, piece),
                        () -> oracle.place(frame, piece));
                break;
            case 4:
                int ofFrame = pick(4);
                both(name + " frame " + frame + " " + ofFrame, () -> morph.frame(frame, ofFrame),
                        () -> oracle.frame(frame, ofFrame));
                break;
            case 5, 6:
                int number = pick(12);
                both(name + " count " + number, () -> morph.count(number), () -> oracle.count(number));
                break;
            case 7:
                int setting = pick(7);
                both(name + " setting " + setting, () -> morph.setting(setting), () -> oracle.setting(setting));
                break;
            case 8, 9:
                int tried = pick(7);
                int value = pick(tried == 3 ? 1 : tried == 4 ? 2 : tried == 1 ? 60 : 9);
                int asked = pick(11);
                both(name + " ifSet " + tried + " " + value + " " + asked, () -> morph.ifSet(tried, value, asked),
                        () -> oracle.ifSet(tried, value, asked));
                break;
            default:
                if (random.nextInt(4) == 0) {
                    both(name + " best", morph::best, oracle::best);
                    both(name + " likeness", () -> Double.doubleToLongBits(morph.likeness()),
                            () -> Double.doubleToLongBits(oracle.likeness()));
                    both(name + " digest", morph::digest, oracle::digest);
                }
                break;
        }
    }
}

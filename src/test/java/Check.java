import java.util.function.IntSupplier;

/** Counts and prints the answers that are not due; end() ends the program with 1 if there was one. */
final class Check {
    private static int checks = 0;
    private static int wrong = 0;

    private Check() {
    }

    static void same(String call, long got, long due) {
        checks++;
        if (got != due) {
            wrong++;
            System.out.println(call + " answered " + got + ", due is " + due);
        }
    }

    static void same(String call, double got, double due) {
        same(call, Double.doubleToLongBits(got), Double.doubleToLongBits(due));
    }

    static void same(String call, String got, String due) {
        checks++;
        if (!got.equals(due)) {
            wrong++;
            System.out.println(call + " answered " + got + ", due is " + due);
        }
    }

    static void holds(String what, boolean holds) {
        checks++;
        if (!holds) {
            wrong++;
            System.out.println(what + " does not hold");
        }
    }

    /** Exactly this exception is due, and the object stays as it was. */
    static void refused(String call, Class<? extends RuntimeException> due, TextMorph morph, IntSupplier calls) {
        long before = morph.digest();
        String got = "no exception";
        try {
            calls.getAsInt();
        } catch (RuntimeException e) {
            got = e.getClass().getName();
        }
        same(call + " throws", got, due.getName());
        same(call + " leaves the digest", morph.digest(), before);
    }

    static void end() {
        System.out.println(checks + " checks, " + wrong + " wrong");
        if (wrong != 0 || checks == 0) {
            System.exit(1);
        }
    }

    /** Appends each character of a text. */
    static void type(TextMorph morph, String text) {
        for (int i = 0; i < text.length(); i++) {
            morph.append(text.charAt(i));
        }
    }

    static TextMorph of(String first, String second) {
        TextMorph morph = new TextMorph();
        type(morph, first);
        morph.load(0);
        type(morph, second);
        morph.load(1);
        return morph;
    }

    /** What a frame shows: its rows up to the last one with a letter, blanks as points, without those at the end. */
    static String picture(TextMorph morph, int frame) {
        StringBuilder all = new StringBuilder();
        for (int row = 0; row < 5; row++) {
            StringBuilder line = new StringBuilder();
            for (int column = 0; column < 16; column++) {
                int code = morph.at(frame, row, column);
                line.append(code == 32 ? '.' : (char) code);
            }
            all.append(line.toString().replaceAll("\\.*$", "")).append('/');
        }
        return all.toString().replaceAll("/*$", "");
    }
}

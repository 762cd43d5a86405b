import java.lang.reflect.Method;
import java.lang.reflect.Modifier;
import java.nio.file.Files;
import java.nio.file.Path;
import java.util.Arrays;
import java.util.regex.Matcher;
import java.util.regex.Pattern;

/** README.md: its example answers as it says, its tables have each call and each setting. */
public final class ReadmeTest {
    private static final Pattern TYPED = Pattern.compile("for \\(char c : \"([^\"]*)\".toCharArray\\(\\)\\) .*");
    private static final Pattern ASKED = Pattern.compile("morph\\.(\\w+)\\(([^)]*)\\); +// ('.'|[-\\d.]+): .*");

    private ReadmeTest() {
    }

    public static void main(String[] args) throws Exception {
        String readme = Files.readString(Path.of("README.md"));
        example(readme);
        calls(readme);
        settings(readme);
        Check.end();
    }

    private static void example(String readme) throws Exception {
        int start = readme.indexOf("```java\n") + 8;
        String[] lines = readme.substring(start, readme.indexOf("```", start)).split("\n");
        Check.same("README: the first line", lines[0], "TextMorph morph = new TextMorph();");
        TextMorph morph = new TextMorph();
        for (int i = 1; i < lines.length; i++) {
            Matcher typed = TYPED.matcher(lines[i]);
            Matcher asked = ASKED.matcher(lines[i]);
            if (typed.matches()) {
                Check.type(morph, typed.group(1));
            } else if (asked.matches()) {
                Check.same("README: " + lines[i], number(answer(morph, asked.group(1), asked.group(2))),
                        number(asked.group(3)));
            } else {
                Check.holds("README: " + lines[i] + " can be read", false);
            }
        }
    }

    private static String answer(TextMorph morph, String name, String arguments) throws Exception {
        String[] texts = arguments.isEmpty() ? new String[0] : arguments.split(", ");
        Object[] values = new Object[texts.length];
        Class<?>[] types = new Class<?>[texts.length];
        Arrays.fill(types, int.class);
        for (int i = 0; i < texts.length; i++) {
            values[i] = (int) number(texts[i]);
        }
        return String.valueOf(TextMorph.class.getMethod(name, types).invoke(morph, values));
    }

    private static double number(String text) {
        return text.charAt(0) == '\'' ? text.charAt(1) : Double.parseDouble(text);
    }

    private static void calls(String readme) {
        for (Method m : TextMorph.class.getDeclaredMethods()) {
            if (Modifier.isPublic(m.getModifiers())) {
                Matcher row = Pattern.compile("\\| `" + m.getName() + "\\(([^)]*)\\)` \\|").matcher(readme);
                boolean found = row.find();
                String arguments = found ? row.group(1) : "";
                Check.holds("README: a row for " + m.getName(), found);
                Check.same("README: arguments of " + m.getName(), arguments.isEmpty() ? 0 : arguments.split(", ").length,
                        m.getParameterCount());
            }
        }
    }

    private static void settings(String readme) {
        for (int setting = 0; setting < 8; setting++) {
            String values = Edges.LEAST[setting] + (setting == 3 ? ", " : " to ") + Edges.MOST[setting];
            String row = "\\| " + setting + " [^|]* \\| " + values + " \\| " + Edges.AT_FIRST[setting] + " \\|";
            Check.holds("README: a row for the setting " + setting, Pattern.compile(row).matcher(readme).find());
        }
    }
}

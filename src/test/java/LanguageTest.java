import com.sun.management.ThreadMXBean;
import java.lang.management.ManagementFactory;
import java.lang.reflect.Constructor;
import java.lang.reflect.Field;
import java.lang.reflect.Method;
import java.lang.reflect.Modifier;
import java.nio.charset.StandardCharsets;
import java.nio.file.Files;
import java.nio.file.Path;
import java.util.Arrays;
import java.util.TreeSet;
import java.util.regex.Matcher;
import java.util.regex.Pattern;

/** LANGUAGE.md, as far as it can be looked up: the face, the words of the source, its sizes, the room. */
public final class LanguageTest {
    private static final String FACE = "int append(int) int at(int,int,int) int begin() int best() int clearBuffer()"
            + " int count(int) long digest() int firstError() int frame(int,int) int ifSet(int,int,int)"
            + " int letter(int,int,int) double likeness() int load(int) int place(int,int) int put(int,int,int,int)"
            + " int set(int,int) int setting(int) int swap() int undo() int way(int,int)";

    private LanguageTest() {
    }

    public static void main(String[] args) throws Exception {
        face();
        innerClasses();
        words();
        sizes();
        room();
        Check.end();
    }

    private static void face() {
        TreeSet<String> due = new TreeSet<>();
        Matcher signature = Pattern.compile("\\w+ \\w+\\([\\w,]*\\)").matcher(FACE);
        while (signature.find()) {
            due.add(signature.group());
        }
        TreeSet<String> got = new TreeSet<>();
        TreeSet<String> publicNames = new TreeSet<>();
        for (Method m : TextMorph.class.getDeclaredMethods()) {
            if (Modifier.isPublic(m.getModifiers())) {
                String types = Arrays.toString(m.getParameterTypes()).replaceAll("[\\[\\] ]", "");
                got.add(m.getReturnType() + " " + m.getName() + "(" + types + ")");
                publicNames.add(m.getName());
            }
        }
        Check.same("the public methods", got.toString(), due.toString());
        for (Method m : TextMorph.class.getDeclaredMethods()) {
            if (!Modifier.isPublic(m.getModifiers())) {
                Check.holds(m.getName() + " is private", Modifier.isPrivate(m.getModifiers()));
                Check.holds(m.getName() + " is no public name", !publicNames.contains(m.getName()));
            }
        }
        for (Field f : TextMorph.class.getDeclaredFields()) {
            Check.holds(f.getName() + " is private or NONE",
                    Modifier.isPrivate(f.getModifiers()) || f.getName().equals("NONE"));
            Check.holds(f.getName() + " is final if static",
                    Modifier.isFinal(f.getModifiers()) || !Modifier.isStatic(f.getModifiers()));
        }
        Constructor<?>[] constructors = TextMorph.class.getDeclaredConstructors();
        Check.same("constructors", constructors.length, 1);
        Check.holds("public constructor", Modifier.isPublic(constructors[0].getModifiers()));
        Check.holds("public final class", Modifier.isPublic(TextMorph.class.getModifiers())
                && Modifier.isFinal(TextMorph.class.getModifiers()));
    }

    private static void innerClasses() {
        Class<?>[] inner = TextMorph.class.getDeclaredClasses();
        Check.holds("at most twelve classes", inner.length < 12);
        for (Class<?> c : inner) {
            int modifiers = c.getModifiers();
            Check.holds(c + " is static", Modifier.isStatic(modifiers));
            Check.holds(c + " is not public", !Modifier.isPublic(modifiers) && !Modifier.isProtected(modifiers));
        }
        TreeSet<String> publicNames = new TreeSet<>();
        for (Method m : TextMorph.class.getMethods()) {
            if (m.getDeclaringClass() == TextMorph.class) {
                publicNames.add(m.getName());
            }
        }
        for (Class<?> c : inner) {
            ownFields(c);
            for (Method m : c.getDeclaredMethods()) {
                Check.holds(m + " is no public name", !publicNames.contains(m.getName()));
            }
        }
        ownFields(TextMorph.class);
    }

    private static void ownFields(Class<?> c) {
        int fields = 0;
        for (Field f : c.getDeclaredFields()) {
            fields += Modifier.isStatic(f.getModifiers()) ? 0 : 1;
        }
        Check.holds(c + " has at most twenty fields", fields <= 20);
        for (Method m : c.getDeclaredMethods()) {
            Check.holds(m + " takes at most seven parameters", m.getParameterCount() <= 7);
        }
    }

    private static String source() throws Exception {
        return Files.readString(Path.of("src/main/java/TextMorph.java"), StandardCharsets.US_ASCII);
    }

    private static String code() throws Exception {
        return source().replaceAll("(?s)/\\*.*?\\*/", "").replaceAll("//[^\n]*", "");
    }

    private static void words() throws Exception {
        String code = code();
        for (String word : new String[] {"->", "::", "synchronized", "finally", "assert", "catch", "instanceof",
            "static {", "hashCode", "toString", "Double.", "package ", "float ", "@", "var ", "record ", "Exact"}) {
            Check.holds("no " + word, !code.contains(word));
        }
        Matcher imports = Pattern.compile("import ([\\w.*]+);").matcher(code);
        while (imports.find()) {
            Check.same("import", imports.group(1), "java.util.Arrays");
        }
        Matcher library = Pattern.compile("\\b(Math|Arrays|System|Integer|Long)\\.(\\w+)").matcher(code);
        while (library.find()) {
            String call = library.group();
            Check.holds(call + " is listed", Arrays.asList("Math.abs", "Math.max", "Math.min", "Arrays.fill",
                    "System.arraycopy").contains(call));
        }
        Matcher thrown = Pattern.compile("throw (?!new )|throw new (\\w+)\\((?!\"[\\w ]+\"\\);)").matcher(code);
        Check.holds("each throw is new, with a written text", !thrown.find());
    }

    private static void sizes() throws Exception {
        int since = -1;
        String[] lines = source().split("\n");
        for (int i = 0; i < lines.length; i++) {
            boolean member = lines[i].matches("( {4}| {8})(?! )[^=;]*\\)[^=;]*\\{");
            if (member && !lines[i].contains(" for (") && !lines[i].contains(" if (")) {
                since = i;
            }
            if (since >= 0 && lines[i].matches("( {4}| {8})\\}")) {
                Check.holds("at most sixty lines from " + since, i - since <= 60);
            }
        }
        Check.holds("methods were found", since > 0);
    }

    /** Calls keep to the rows that the constructor has made: a run of the dearest ones makes next to nothing. */
    private static void room() {
        TextMorph x = Check.of("abcdefghijklmnop/qrstuvwxyzabcdef/ghijklmn", "////ponmlkjihgfedcba");
        x.set(5, 9);
        long sum = x.digest();
        ThreadMXBean threads = (ThreadMXBean) ManagementFactory.getThreadMXBean();
        long thread = Thread.currentThread().getId();
        long before = threads.getThreadAllocatedBytes(thread);
        for (int call = 0; call < 128; call++) {
            sum += x.put(1, 0, call % 16, call % 2 == 0 ? 'q' : 32);
            sum += x.swap();
            sum += x.digest();
            sum += x.ifSet(4, 2, 11);
        }
        long made = threads.getThreadAllocatedBytes(thread) - before;
        Check.holds("512 calls make under 64 KB, not " + made + " bytes (" + sum + ")", made < 65536);
    }
}

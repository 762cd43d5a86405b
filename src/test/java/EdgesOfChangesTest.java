import java.util.List;
import java.util.function.Consumer;
import java.util.function.Supplier;

/** The edges that promises 1 to 7 name: too small, too large, empty, full, dropped, refused. */
public final class EdgesOfChangesTest {
    private static final List<Supplier<TextMorph>> OBJECTS = List.of(TextMorph::new, Edges::busy, Edges::full);

    private EdgesOfChangesTest() {
    }

    public static void main(String[] args) {
        promise1();
        promise1Apart();
        promise2();
        promise2Blank();
        promise3Range();
        promise3Refused();
        promise4();
        promise4Refused();
        promise4Corners();
        promise5Field();
        promise5Letters();
        promise5Forty();
        promise6();
        promise6Holds();
        promise7None();
        promise7Six();
        promise7EachMethod();
        promise7NotUndoable();
        Check.end();
    }

    private static void refusedEverywhere(String call, Class<? extends RuntimeException> due,
            Consumer<TextMorph> called) {
        for (Supplier<TextMorph> made : OBJECTS) {
            Edges.refused(call, due, made, called);
        }
    }

    private static void undoableEverywhere(String call, Consumer<TextMorph> called) {
        for (Supplier<TextMorph> made : OBJECTS) {
            Edges.undoable(call, () -> Edges.withBuffer(made.get(), "a.b"), called);
        }
    }

    /** "At first both texts are blank", and nothing else is there. */
    private static void promise1() {
        TextMorph x = new TextMorph();
        Check.same("1: NONE", TextMorph.NONE, -1);
        Check.same("1: the state", Edges.stateOf(x), "| | 2 60 12 0 0 3 2 2 ");
        Edges.counts("1: new", x, 5, 0, 0, 0, 0, 0, 0, 0, 0, 0, 0, 0, 0);
        for (int frame = 0; frame < 5; frame++) {
            Check.same("1: a blank frame", Edges.cells(x, frame), Edges.times(80, ' '));
        }
        Check.same("1: an empty buffer has no error", x.firstError(), 0);
        Check.same("1: an empty buffer", x.clearBuffer(), 0);
        Edges.refused("1: no letter 0 of text 0", Edges.INDEX, TextMorph::new, y -> y.letter(0, 0, 0));
        Edges.refused("1: no letter 0 of text 1", Edges.INDEX, TextMorph::new, y -> y.letter(1, 0, 0));
        Edges.refused("1: no piece 0", Edges.INDEX, TextMorph::new, y -> y.way(0, 0));
        Edges.refused("1: no place of it", Edges.INDEX, TextMorph::new, y -> y.place(0, 0));
        Edges.refused("1: no frame 5", Edges.INDEX, TextMorph::new, y -> y.at(5, 0, 0));
        Edges.refused("1: no saved state", Edges.STATE, TextMorph::new, TextMorph::undo);
    }

    private static void promise1Apart() {
        TextMorph x = new TextMorph();
        TextMorph other = new TextMorph();
        other.put(0, 0, 0, 'a');
        other.set(0, 9);
        other.append('b');
        Check.same("1: another object's changes are its own", Edges.whole(x).toString(),
                Edges.whole(new TextMorph()).toString());
    }

    private static void promise2() {
        TextMorph x = new TextMorph();
        Check.same("2: begin of blank texts", x.begin(), 0);
        Check.same("2: saves all the same", x.count(12), 1);
        x = Edges.full();
        Check.same("2: begin of full texts", x.begin(), 80);
        Check.same("2: both blank", Edges.stateOf(x), "| | 2 60 12 0 0 3 2 2 ");
        x = Check.of("abc", "");
        Check.same("2: one blank text", x.begin(), 3);
        x = Check.of("", "ab");
        Check.same("2: the other blank text", x.begin(), 2);
        x = new TextMorph();
        for (int setting = 0; setting < 8; setting++) {
            x.set(setting, Edges.MOST[setting]);
        }
        Check.type(x, Edges.times(60, '!'));
        Check.same("2: begin", x.begin(), 0);
        Check.same("2: all settings as at first", Edges.stateOf(x), "| | 2 60 12 0 0 3 2 2 ");
        Check.same("2: the buffer is no text", x.clearBuffer(), 60);
        Check.same("2: room for forty again", Edges.withBuffer(x, Edges.forty('c')).load(0), 40);
        undoableEverywhere("2: begin", TextMorph::begin);
    }

    /** Blank means blank: no letter comes back with the next put. */
    private static void promise2Blank() {
        TextMorph x = Edges.full();
        x.begin();
        Edges.counts("2: nothing is there", x, 5, 0, 0, 0, 0, 0, 0, 0, 0, 0, 0, 0, 3);
        Check.same("2: no blank of text 0 has a letter", x.put(0, 0, 0, 'a'), 32);
        Check.same("2: no blank of text 1 has a letter", x.put(1, 2, 7, 'a'), 32);
        Check.same("2: one letter", x.count(1), 1);
        Check.same("2: one letter", x.count(2), 1);
        Check.same("2: begin again", x.begin(), 2);
    }

    private static void promise3Range() {
        for (int setting = 0; setting < 8; setting++) {
            TextMorph x = new TextMorph();
            int previous = Edges.AT_FIRST[setting];
            for (int value = Edges.LEAST[setting]; value <= Edges.MOST[setting]; value++) {
                Check.same("3: set " + setting + " " + value, x.set(setting, value), previous);
                Check.same("3: is set", x.setting(setting), value);
                previous = value;
            }
            for (int other = 0; other < 8; other++) {
                Check.same("3: only that one", x.setting(other), other == setting ? previous : Edges.AT_FIRST[other]);
            }
            int most = previous;
            int same = setting;
            Check.same("3: the same once more", x.set(setting, most), most);
            undoableEverywhere("3: set " + setting, y -> y.set(same, Edges.LEAST[same]));
            undoableEverywhere("3: set " + setting + " as it is", y -> y.set(same, y.setting(same)));
        }
    }

    private static void promise3Refused() {
        for (int setting = 0; setting < 8; setting++) {
            int tried = setting;
            for (int value : Edges.outside(Edges.LEAST[setting], Edges.MOST[setting])) {
                refusedEverywhere("3: set " + setting + " " + value, Edges.ARGUMENT, x -> x.set(tried, value));
            }
        }
        for (int setting : Edges.outside(0, 7)) {
            refusedEverywhere("3: set " + setting, Edges.INDEX, x -> x.set(setting, 1));
            refusedEverywhere("3: set " + setting + ", both wrong", Edges.INDEX, x -> x.set(setting, -1));
        }
    }

    private static void promise4() {
        TextMorph x = Check.of("abc/d", "ef");
        Check.same("4: an empty buffer is a blank text", x.load(0), 0);
        Check.same("4: the other text stays", Edges.stateOf(x), "| 0 0 101 0 1 102 | 2 60 12 0 0 3 2 2 ");
        Check.type(x, "////");
        Check.same("4: empty rows alone", x.load(1), 0);
        Check.type(x, "................/................");
        Check.same("4: blank cells alone", x.load(1), 0);
        Check.type(x, Edges.forty('a'));
        Check.same("4: forty letters", x.load(0), 40);
        Check.same("4: clears the buffer", x.firstError(), 0);
        Check.same("4: clears the buffer", x.clearBuffer(), 0);
        Check.type(x, "/b");
        Check.same("4: replaces forty by one", x.load(0), 1);
        Check.same("4: cells that are not written are blank", Edges.stateOf(x),
                "1 0 98 | | 2 60 12 0 0 3 2 2 ");
        Check.same("4: a blank text again", x.load(0), 0);
        Check.type(x, Edges.forty('a') + Edges.times(8, '.') + "/" + Edges.times(9, '.'));
        Check.same("4: a full buffer", x.load(1), 40);
        undoableEverywhere("4: load 0", y -> y.load(0));
        undoableEverywhere("4: load 1", y -> y.load(1));
        undoableEverywhere("4: load of an empty buffer", y -> {
            y.clearBuffer();
            y.load(1);
        });
        x = Edges.withBuffer(new TextMorph(), "ab");
        x.load(0);
        x.undo();
        Check.same("4: undo does not bring the buffer back", x.clearBuffer(), 0);
    }

    private static void promise4Refused() {
        String[] wrong = {"!", "ab!", "A", "a b".replace(' ', '_'), "/////", Edges.times(17, 'a'), Edges.times(17, '.'),
            Edges.forty('a') + "a", "a/b/c/d/" + Edges.times(17, 'e')};
        for (Supplier<TextMorph> made : OBJECTS) {
            for (String buffer : wrong) {
                Supplier<TextMorph> typed = () -> Edges.withBuffer(made.get(), buffer);
                Edges.refused("4: load 0 of " + buffer, Edges.ARGUMENT, typed, x -> x.load(0));
                Edges.refused("4: load 1 of " + buffer, Edges.ARGUMENT, typed, x -> x.load(1));
                Edges.refused("4: load 2 of " + buffer, Edges.INDEX, typed, x -> x.load(2));
                Edges.refused("4: load -1 of " + buffer, Edges.INDEX, typed, x -> x.load(-1));
            }
            for (int text : Edges.outside(0, 1)) {
                Edges.refused("4: load " + text, Edges.INDEX, () -> Edges.withBuffer(made.get(), "ab"),
                        x -> x.load(text));
            }
        }
        TextMorph x = Edges.withBuffer(Check.of("xy", "z"), "ab!");
        String before = Edges.stateOf(x);
        try {
            x.load(0);
        } catch (IllegalArgumentException e) {
            Check.same("4: the text stays", Edges.stateOf(x), before);
        }
        Check.same("4: the buffer stays", x.clearBuffer(), 3);
        Check.same("4: and can be typed anew", Edges.withBuffer(x, "ab").load(0), 2);
    }

    private static void promise4Corners() {
        TextMorph x = Edges.withBuffer(new TextMorph(), "a..............b////c..............d");
        Check.same("4: the corners", x.load(1), 4);
        Check.same("4: where they are", Edges.stateOf(x),
                "| 0 0 97 0 15 98 4 0 99 4 15 100 | 2 60 12 0 0 3 2 2 ");
    }

    private static void promise5Field() {
        int[][] corners = {{0, 0}, {0, 15}, {4, 0}, {4, 15}};
        for (int[] c : corners) {
            for (int text = 0; text < 2; text++) {
                TextMorph x = new TextMorph();
                Check.same("5: put into a corner", x.put(text, c[0], c[1], 'm'), 32);
                Check.same("5: its row", x.letter(text, 0, 0), c[0]);
                Check.same("5: its column", x.letter(text, 0, 1), c[1]);
                Check.same("5: the other text is blank", x.count(2 - text), 0);
            }
        }
        for (int text : Edges.outside(0, 1)) {
            refusedEverywhere("5: text " + text, Edges.INDEX, x -> x.put(text, 0, 0, 'a'));
            refusedEverywhere("5: text " + text + ", no letter", Edges.INDEX, x -> x.put(text, 0, 0, 0));
        }
        for (int row : Edges.outside(0, 4)) {
            refusedEverywhere("5: row " + row, Edges.INDEX, x -> x.put(0, row, 0, 'a'));
            refusedEverywhere("5: row " + row + ", no letter", Edges.INDEX, x -> x.put(1, row, 0, 0));
        }
        for (int column : Edges.outside(0, 15)) {
            refusedEverywhere("5: column " + column, Edges.INDEX, x -> x.put(0, 1, column, 'a'));
            refusedEverywhere("5: column " + column + ", no letter", Edges.INDEX, x -> x.put(1, 1, column, 0));
        }
    }

    private static void promise5Letters() {
        TextMorph x = new TextMorph();
        Check.same("5: a", x.put(0, 1, 1, 'a'), 32);
        Check.same("5: z over a", x.put(0, 1, 1, 'z'), 'a');
        Check.same("5: z over z", x.put(0, 1, 1, 'z'), 'z');
        Check.same("5: a blank over z", x.put(0, 1, 1, 32), 'z');
        Check.same("5: a blank over a blank", x.put(0, 1, 1, 32), 32);
        Check.same("5: each saves", x.count(12), 5);
        for (int code : new int[] {'a' - 1, 'z' + 1, 31, 33, 'A', 'Z', '.', '/', 0, -1, 'a' + 256, 'a' + 65536,
            32 + 256, 32 + 65536, Integer.MIN_VALUE, Integer.MIN_VALUE + 'a', Integer.MAX_VALUE}) {
            refusedEverywhere("5: code " + code, Edges.ARGUMENT, y -> y.put(0, 0, 0, code));
            refusedEverywhere("5: code " + code, Edges.ARGUMENT, y -> y.put(1, 4, 15, code));
        }
        undoableEverywhere("5: put a letter", y -> y.put(0, 0, 0, 'm'));
        undoableEverywhere("5: put a blank", y -> y.put(1, 0, 0, 32));
        undoableEverywhere("5: put what is there", y -> y.put(1, 4, 15, 32));
    }

    /** "If the text would have more than 40 letters": the call is refused, but not where the number stays. */
    private static void promise5Forty() {
        for (int text = 0; text < 2; text++) {
            int of = text;
            Edges.refused("5: a 41st", Edges.STATE, Edges::full, x -> x.put(of, 2, 8, 'a'));
            Edges.refused("5: a 41st in the last cell", Edges.STATE, Edges::full, x -> x.put(of, 4, 15, 'z'));
            Edges.refused("5: no letter for a 41st", Edges.ARGUMENT, Edges::full, x -> x.put(of, 2, 8, 'A'));
            Edges.refused("5: nowhere for a 41st", Edges.INDEX, Edges::full, x -> x.put(of, 2, 16, 'a'));
            TextMorph x = Edges.full();
            char there = of == 0 ? 'a' : 'b';
            Check.same("5: another letter instead", x.put(of, 2, 7, 'k'), there);
            Check.same("5: a blank beside", x.put(of, 2, 8, 32), 32);
            Check.same("5: still forty", x.count(1 + of), 40);
            Check.same("5: a blank instead", x.put(of, 0, 0, 32), there);
            Check.same("5: thirty-nine", x.count(1 + of), 39);
            Check.same("5: the fortieth", x.put(of, 4, 15, 'z'), 32);
            Check.same("5: forty again", x.count(1 + of), 40);
            Check.same("5: it is the last one", x.letter(of, 39, 2), 'z');
            x = Edges.withBuffer(new TextMorph(), Edges.forty('c'));
            x.load(of);
            Check.same("5: the other text has its own forty", x.put(1 - of, 4, 15, 'z'), 32);
        }
    }

    private static void promise6() {
        TextMorph x = new TextMorph();
        Check.same("6: swap of blank texts", x.swap(), 5);
        Check.same("6: saves all the same", x.count(12), 1);
        x = Check.of("", Edges.forty('a'));
        Check.same("6: swap of a blank and a full text", x.swap(), 45);
        Check.same("6: full now", x.count(1), 40);
        Check.same("6: blank now", x.count(2), 0);
        Check.same("6: swap back", x.swap(), 45);
        Check.same("6: blank again", x.count(1), 0);
        x = Edges.busy();
        String before = Edges.stateOf(x);
        x.swap();
        x.swap();
        Check.same("6: twice is as before", Edges.stateOf(x), before);
        Check.same("6: full ones", Edges.full().swap(), Edges.full().count(0));
        undoableEverywhere("6: swap", TextMorph::swap);
    }

    /** "Returns the number of frames then": of the exchanged texts, not of those before. */
    private static void promise6Holds() {
        TextMorph x = Edges.withSetting(Check.of("ab", ".ab"), 6, 0, 7, 0);
        Check.same("6: frames before", x.count(0), 3);
        Check.same("6: frames then", x.swap(), 2);
        x = Edges.withSetting(Check.of("ab", ".ab"), 6, 20, 7, 20);
        Check.same("6: frames before, long holds", x.count(0), 43);
        Check.same("6: frames then, long holds", x.swap(), 42);
        x = Edges.withSetting(new TextMorph(), 6, 0, 7, 0);
        Check.same("6: a single frame", x.swap(), 1);
    }

    private static void promise7None() {
        Edges.refused("7: none is saved", Edges.STATE, TextMorph::new, TextMorph::undo);
        Supplier<TextMorph> usedUp = () -> {
            TextMorph x = Edges.busy();
            for (int left = 5; left >= 0; left--) {
                Check.same("7: left", x.undo(), left);
            }
            return x;
        };
        Edges.refused("7: none is left", Edges.STATE, usedUp, TextMorph::undo);
        TextMorph x = new TextMorph();
        Check.same("7: one", x.set(0, 9), 2);
        Check.same("7: one is restored", x.undo(), 0);
        Check.same("7: as it was", x.setting(0), 2);
        Check.same("7: another one", x.set(0, 8), 2);
        Check.same("7: is saved again", x.undo(), 0);
    }

    /** "At most 6 states are saved; the oldest one is dropped first." */
    private static void promise7Six() {
        TextMorph x = new TextMorph();
        for (int value = 1; value <= 6; value++) {
            x.set(1, value);
            Check.same("7: saved", x.count(12), value);
        }
        x.set(1, 7);
        Check.same("7: a seventh drops the oldest", x.count(12), 6);
        for (int value = 8; value <= 200; value++) {
            x.set(1, value);
        }
        Check.same("7: never more", x.count(12), 6);
        Check.same("7: undo", x.undo(), 5);
        Check.same("7: undo", x.undo(), 4);
        Check.same("7: the latest first", x.setting(1), 198);
        for (int value = 101; value <= 105; value++) {
            x.set(1, value);
        }
        Check.same("7: full again", x.count(12), 6);
        int[] due = {104, 103, 102, 101, 198, 197};
        for (int i = 0; i < 6; i++) {
            Check.same("7: undo", x.undo(), 5 - i);
            Check.same("7: in their order", x.setting(1), due[i]);
        }
        Edges.refused("7: the dropped ones are gone", Edges.STATE, () -> {
            TextMorph y = new TextMorph();
            for (int value = 1; value <= 7; value++) {
                y.set(0, value);
            }
            for (int i = 0; i < 6; i++) {
                y.undo();
            }
            Check.same("7: the oldest that is left", y.setting(0), 1);
            return y;
        }, TextMorph::undo);
    }

    /** "Both texts and the settings" are saved, all of them, and by each of the five methods. */
    private static void promise7EachMethod() {
        TextMorph x = new TextMorph();
        String[] states = new String[6];
        states[0] = Edges.stateOf(x);
        Edges.withBuffer(x, Edges.forty('a')).load(0);
        states[1] = Edges.stateOf(x);
        x.put(1, 4, 15, 'z');
        states[2] = Edges.stateOf(x);
        x.set(7, 20);
        states[3] = Edges.stateOf(x);
        x.swap();
        states[4] = Edges.stateOf(x);
        x.begin();
        for (int left = 4; left >= 0; left--) {
            Check.same("7: left", x.undo(), left);
            Check.same("7: the state before", Edges.stateOf(x), states[left]);
        }
        x = Check.of("ab", "ba");
        x.swap();
        Check.same("7: frames before undo", x.count(0), 9);
        x.set(5, 0);
        Check.same("7: frames before undo", x.count(0), 6);
        x.undo();
        Check.same("7: the frames are those of the restored state", x.count(0), 9);
    }

    private static void promise7NotUndoable() {
        List<Consumer<TextMorph>> calls = List.of(x -> x.append('a'), TextMorph::clearBuffer, TextMorph::firstError,
                x -> x.letter(0, 0, 0), x -> x.way(0, 0), x -> x.at(0, 0, 0), x -> x.place(0, 0),
                x -> x.frame(0, 0), x -> x.count(0), x -> x.setting(0), x -> x.ifSet(6, 20, 0), TextMorph::best,
                TextMorph::likeness, TextMorph::digest);
        for (Consumer<TextMorph> call : calls) {
            TextMorph x = Check.of("ab", "ba");
            call.accept(x);
            Check.same("7: is not saved", x.count(12), 2);
            Check.same("7: states", Edges.states(x).toString(), Edges.states(Check.of("ab", "ba")).toString());
        }
    }
}

import java.util.Arrays;

/** Two texts of letters on a field, one changed into the other frame by frame. */
public final class TextMorph {
    /** There is nothing to return. */
    public static final int NONE = -1;

    private static final int ROWS = 5;
    private static final int COLUMNS = 16;
    private static final int CELLS = ROWS * COLUMNS;
    private static final int BLANK = 32;
    private static final int MOST_LETTERS = 40;
    private static final int MOST_SIGNS = 60;
    private static final int MOST_SAVED = 6;

    private static final int SETTINGS = 8;
    private static final int ROW_WEIGHT = 0;
    private static final int REACH = 1;
    private static final int CHANGE_REACH = 2;
    private static final int KEEP_LINES = 3;
    private static final int WAY = 4;
    private static final int PATIENCE = 5;
    private static final int BEGIN_HOLD = 6;
    private static final int END_HOLD = 7;
    private static final int[] LEAST_VALUE = {1, 0, 0, 0, 0, 0, 0, 0};
    private static final int[] MOST_VALUE = {9, 200, 200, 1, 2, 9, 20, 20};
    private static final int[] VALUE_AT_FIRST = {2, 60, 12, 0, 0, 3, 2, 2};

    private static final int WAYS = 3;
    private static final int PATIENCES = 10;

    private static final int COMMON = 1;
    private static final int MOVED = 2;
    private static final int CHANGED = 3;
    private static final int VANISHES = 4;
    private static final int APPEARS = 5;

    // The longest way has 4 + 15 steps, and a piece is held in at most 9 frames before each of them.
    private static final int MOST_MOVING = (ROWS - 1 + COLUMNS - 1) * PATIENCES;

    private static final int LETTER_PROPERTIES = 6;
    private static final int WAY_PROPERTIES = 3;
    private static final int FRAME_PROPERTIES = 5;
    private static final int MORPH_NUMBERS = 12;
    private static final int SAVED_STATES = 12;

    private final State state = new State();
    private final Morph morph = new Morph(state);
    private final State tried = new State();
    private final Morph trial = new Morph(tried);
    private final State[] saved = new State[MOST_SAVED];
    private final Buffer buffer = new Buffer();
    private int savedStates = 0;
    private boolean stale = true;

    public TextMorph() {
        for (int i = 0; i < MOST_SAVED; i++) {
            saved[i] = new State();
        }
    }

    // ---- changes

    public int begin() {
        save();
        int letters = state.text(0).letters + state.text(1).letters;
        state.clear();
        return letters;
    }

    public int set(int setting, int value) throws IndexOutOfBoundsException, IllegalArgumentException {
        if (!isSetting(setting)) {
            throw new IndexOutOfBoundsException("no such setting");
        }
        if (!isValue(setting, value)) {
            throw new IllegalArgumentException("the value is out of range");
        }
        save();
        int previous = state.settings[setting];
        state.settings[setting] = value;
        return previous;
    }

    public int load(int text) throws IndexOutOfBoundsException, IllegalArgumentException {
        if (!isText(text)) {
            throw new IndexOutOfBoundsException("no such text");
        }
        if (buffer.read() < buffer.length) {
            throw new IllegalArgumentException("the buffer has a syntax error");
        }
        save();
        state.text(text).takeCodes(buffer.cells);
        buffer.length = 0;
        return state.text(text).letters;
    }

    public int put(int text, int row, int column, int code)
            throws IndexOutOfBoundsException, IllegalArgumentException, IllegalStateException {
        if (!isText(text) || !isCell(row, column)) {
            throw new IndexOutOfBoundsException("no such text or cell");
        }
        if (!isLetter(code) && code != BLANK) {
            throw new IllegalArgumentException("neither a letter nor a blank");
        }
        int cell = COLUMNS * row + column;
        int previous = state.text(text).codes[cell];
        if (code != BLANK && previous == BLANK && state.text(text).letters >= MOST_LETTERS) {
            throw new IllegalStateException("the text would have too many letters");
        }
        save();
        state.text(text).write(cell, code);
        return previous;
    }

    public int swap() {
        save();
        state.exchangeTexts();
        refresh();
        return morph.frames();
    }

    public int undo() throws IllegalStateException {
        if (savedStates <= 0) {
            throw new IllegalStateException("no state is saved");
        }
        savedStates--;
        state.copyFrom(saved[savedStates]);
        stale = true;
        return savedStates;
    }

    // ---- texts

    public int append(int code) throws IllegalArgumentException, IllegalStateException {
        if (code < 33 || code > 126) {
            throw new IllegalArgumentException("no such character");
        }
        if (buffer.length >= MOST_SIGNS) {
            throw new IllegalStateException("the buffer is full");
        }
        buffer.signs[buffer.length] = code;
        buffer.length++;
        return buffer.length;
    }

    public int clearBuffer() {
        int length = buffer.length;
        buffer.length = 0;
        return length;
    }

    public int firstError() {
        return buffer.read();
    }

    // ---- letters and pairs

    public int letter(int text, int letter, int what) throws IndexOutOfBoundsException, IllegalArgumentException {
        if (!isText(text) || letter < 0 || letter >= state.text(text).letters) {
            throw new IndexOutOfBoundsException("no such text or letter");
        }
        if (what < 0 || what >= LETTER_PROPERTIES) {
            throw new IllegalArgumentException("no such property");
        }
        refresh();
        return morph.letterProperty(text, letter, what);
    }

    public int way(int piece, int what) throws IndexOutOfBoundsException, IllegalArgumentException {
        if (!isPiece(piece)) {
            throw new IndexOutOfBoundsException("no such piece");
        }
        if (what < 0 || what >= WAY_PROPERTIES) {
            throw new IllegalArgumentException("no such property");
        }
        refresh();
        return morph.wayProperty(piece, what);
    }

    // ---- frames

    public int at(int frame, int row, int column) throws IndexOutOfBoundsException {
        refresh();
        if (!isFrame(frame) || !isCell(row, column)) {
            throw new IndexOutOfBoundsException("no such frame or cell");
        }
        return morph.codeShown(frame, COLUMNS * row + column);
    }

    public int place(int frame, int piece) throws IndexOutOfBoundsException {
        refresh();
        if (!isFrame(frame) || !isPiece(piece)) {
            throw new IndexOutOfBoundsException("no such frame or piece");
        }
        return morph.cellOf(piece, frame);
    }

    public int frame(int frame, int what) throws IndexOutOfBoundsException, IllegalArgumentException {
        refresh();
        if (!isFrame(frame)) {
            throw new IndexOutOfBoundsException("no such frame");
        }
        if (what < 0 || what >= FRAME_PROPERTIES) {
            throw new IllegalArgumentException("no such property");
        }
        return morph.frameProperty(frame, what);
    }

    // ---- what there is

    public int count(int what) throws IllegalArgumentException {
        if (what < 0 || what > SAVED_STATES) {
            throw new IllegalArgumentException("no such number");
        }
        refresh();
        return what == SAVED_STATES ? savedStates : morph.number(what);
    }

    public int setting(int setting) throws IndexOutOfBoundsException {
        if (!isSetting(setting)) {
            throw new IndexOutOfBoundsException("no such setting");
        }
        return state.settings[setting];
    }

    // ---- what would be; nothing is changed

    public int ifSet(int setting, int value, int what) throws IndexOutOfBoundsException, IllegalArgumentException {
        if (!isSetting(setting)) {
            throw new IndexOutOfBoundsException("no such setting");
        }
        if (!isValue(setting, value) || what < 0 || what >= MORPH_NUMBERS) {
            throw new IllegalArgumentException("the value or the number is out of range");
        }
        tried.copyFrom(state);
        tried.settings[setting] = value;
        trial.work();
        return trial.number(what);
    }

    public int best() {
        int best = NONE;
        int frames = 0;
        int held = NONE;
        tried.copyFrom(state);
        // A candidate is 10 * way + patience; they ascend, so that of several equal ones the first stays.
        // If no piece is held in one, it has as few frames as any: none that comes after it is better.
        for (int candidate = 0; candidate < WAYS * PATIENCES && held != 0; candidate++) {
            tried.settings[WAY] = candidate / PATIENCES;
            tried.settings[PATIENCE] = candidate % PATIENCES;
            trial.work();
            int framesNow = trial.frames();
            int heldNow = trial.motion.heldInAll;
            if (best == NONE || framesNow < frames || framesNow == frames && heldNow < held) {
                best = candidate;
                frames = framesNow;
                held = heldNow;
            }
        }
        return best;
    }

    public double likeness() {
        refresh();
        int letters = state.text(0).letters + state.text(1).letters;
        if (letters <= 0) {
            return 1.0;
        }
        return (double) (2 * morph.pairs.ofKind[COMMON]) / (double) letters;
    }

    public long digest() {
        refresh();
        long hash = mixNumbers(2111);
        hash = mixLetters(hash);
        hash = mixFrames(hash);
        hash = mix(hash, best());
        hash = mix(hash, bits(likeness()));
        hash = mix(hash, buffer.length);
        for (int i = 0; i < buffer.length; i++) {
            hash = mix(hash, buffer.signs[i]);
        }
        return hash;
    }

    private long mixNumbers(long start) {
        long hash = start;
        for (int what = 0; what < MORPH_NUMBERS; what++) {
            hash = mix(hash, morph.number(what));
        }
        hash = mix(hash, savedStates);
        for (int setting = 0; setting < SETTINGS; setting++) {
            hash = mix(hash, state.settings[setting]);
        }
        return hash;
    }

    private long mixLetters(long start) {
        long hash = start;
        for (int text = 0; text < 2; text++) {
            int letters = state.text(text).letters;
            for (int i = 0; i < letters * LETTER_PROPERTIES; i++) {
                hash = mix(hash, morph.letterProperty(text, i / LETTER_PROPERTIES, i % LETTER_PROPERTIES));
            }
        }
        for (int i = 0; i < state.text(0).letters * WAY_PROPERTIES; i++) {
            hash = mix(hash, morph.wayProperty(i / WAY_PROPERTIES, i % WAY_PROPERTIES));
        }
        return hash;
    }

    private long mixFrames(long start) {
        long hash = start;
        int frames = morph.frames();
        for (int i = 0; i < frames * FRAME_PROPERTIES; i++) {
            hash = mix(hash, morph.frameProperty(i / FRAME_PROPERTIES, i % FRAME_PROPERTIES));
        }
        for (int cell = 0; cell < CELLS; cell++) {
            hash = mix(hash, morph.codeShown((frames - 1) / 2, cell));
        }
        return hash;
    }

    private static long mix(long hash, long value) {
        return 31 * hash + value;
    }

    /** The bits of a likeness, which is 0, or at least 2 / 80 and at most 1; LANGUAGE.md has no Double. */
    private static long bits(double likeness) {
        if (likeness <= 0.0) {
            return 0;
        }
        double fraction = likeness;
        long exponent = 1023;
        while (fraction < 1.0 && exponent > 0) {
            fraction = fraction * 2.0;
            exponent--;
        }
        return (exponent << 52) + (long) ((fraction - 1.0) * 4503599627370496.0);
    }

    /** Saves the state for undo; each undoable call comes through here right before it changes something. */
    private void save() {
        if (savedStates >= MOST_SAVED) {
            State oldest = saved[0];
            for (int i = 1; i < MOST_SAVED; i++) {
                saved[i - 1] = saved[i];
            }
            saved[MOST_SAVED - 1] = oldest;
            savedStates = MOST_SAVED - 1;
        }
        saved[savedStates].copyFrom(state);
        savedStates++;
        stale = true;
    }

    private void refresh() {
        if (stale) {
            morph.work();
            stale = false;
        }
    }

    private boolean isFrame(int frame) {
        return frame >= 0 && frame < morph.frames();
    }

    private boolean isPiece(int piece) {
        return piece >= 0 && piece < state.text(0).letters;
    }

    private static boolean isText(int text) {
        return text == 0 || text == 1;
    }

    private static boolean isCell(int row, int column) {
        return row >= 0 && row < ROWS && column >= 0 && column < COLUMNS;
    }

    private static boolean isLetter(int code) {
        return code >= 'a' && code <= 'z';
    }

    private static boolean isSetting(int setting) {
        return setting >= 0 && setting < SETTINGS;
    }

    /** Whether a setting that there is can have the value. */
    private static boolean isValue(int setting, int value) {
        return value >= LEAST_VALUE[setting] && value <= MOST_VALUE[setting];
    }

    /** A text: what each cell has, and its letters by their numbers. */
    static final class Text {
        final int[] codes = new int[CELLS];
        final int[] cells = new int[MOST_LETTERS];
        int letters = 0;

        Text() {
            Arrays.fill(codes, BLANK);
        }

        void clear() {
            Arrays.fill(codes, BLANK);
            letters = 0;
        }

        void takeCodes(int[] from) {
            System.arraycopy(from, 0, codes, 0, CELLS);
            numberLetters();
        }

        void copyFrom(Text other) {
            System.arraycopy(other.codes, 0, codes, 0, CELLS);
            System.arraycopy(other.cells, 0, cells, 0, MOST_LETTERS);
            letters = other.letters;
        }

        void write(int cell, int code) {
            codes[cell] = code;
            numberLetters();
        }

        int rowOf(int letter) {
            return cells[letter] / COLUMNS;
        }

        int columnOf(int letter) {
            return cells[letter] % COLUMNS;
        }

        int codeOf(int letter) {
            return codes[cells[letter]];
        }

        private void numberLetters() {
            letters = 0;
            for (int cell = 0; cell < CELLS; cell++) {
                if (codes[cell] != BLANK && letters < MOST_LETTERS) {
                    cells[letters] = cell;
                    letters++;
                }
            }
        }
    }

    /** What undo restores: both texts and the settings. */
    static final class State {
        final int[] settings = new int[SETTINGS];
        private Text first = new Text();
        private Text second = new Text();

        State() {
            System.arraycopy(VALUE_AT_FIRST, 0, settings, 0, SETTINGS);
        }

        Text text(int number) {
            return number == 0 ? first : second;
        }

        void clear() {
            first.clear();
            second.clear();
            System.arraycopy(VALUE_AT_FIRST, 0, settings, 0, SETTINGS);
        }

        void copyFrom(State other) {
            first.copyFrom(other.first);
            second.copyFrom(other.second);
            System.arraycopy(other.settings, 0, settings, 0, SETTINGS);
        }

        void exchangeTexts() {
            Text formerFirst = first;
            first = second;
            second = formerFirst;
        }
    }

    /** The characters that are to become a text. */
    static final class Buffer {
        final int[] signs = new int[MOST_SIGNS];
        final int[] cells = new int[CELLS];
        int length = 0;

        /** Reads the signs into the cells up to the first syntax error; its index, or the length. */
        int read() {
            Arrays.fill(cells, BLANK);
            int row = 0;
            int column = 0;
            int letters = 0;
            for (int i = 0; i < length; i++) {
                int sign = signs[i];
                if (sign == '/') {
                    row++;
                    column = 0;
                    if (row >= ROWS) {
                        return i;
                    }
                } else if (sign == '.' && column < COLUMNS) {
                    column++;
                } else if (isLetter(sign) && column < COLUMNS && letters < MOST_LETTERS) {
                    cells[COLUMNS * row + column] = sign;
                    column++;
                    letters++;
                } else {
                    return i;
                }
            }
            return length;
        }
    }

    /** Which letters of the two texts are paired, and of which kind each letter is. */
    static final class Pairs {
        private static final int SIDE = MOST_LETTERS + 1;

        final int[] partnerOfFirst = new int[MOST_LETTERS];
        final int[] partnerOfSecond = new int[MOST_LETTERS];
        final int[] kindOfFirst = new int[MOST_LETTERS];
        final int[] kindOfSecond = new int[MOST_LETTERS];
        final int[] ofKind = new int[APPEARS + 1];
        private final State state;
        private final int[] longest = new int[SIDE * SIDE];

        Pairs(State state) {
            this.state = state;
        }

        void work() {
            unpairAll();
            pairCommon();
            boolean more = true;
            for (int i = 0; i < MOST_LETTERS && more; i++) {
                more = pairNearest(MOVED, state.settings[REACH]);
            }
            more = true;
            for (int i = 0; i < MOST_LETTERS && more; i++) {
                more = pairNearest(CHANGED, state.settings[CHANGE_REACH]);
            }
        }

        int distance(int first, int second) {
            int columns = Math.abs(state.text(0).columnOf(first) - state.text(1).columnOf(second));
            int rows = Math.abs(state.text(0).rowOf(first) - state.text(1).rowOf(second));
            return columns + state.settings[ROW_WEIGHT] * rows;
        }

        private void unpairAll() {
            Arrays.fill(partnerOfFirst, NONE);
            Arrays.fill(partnerOfSecond, NONE);
            Arrays.fill(kindOfFirst, VANISHES);
            Arrays.fill(kindOfSecond, APPEARS);
            Arrays.fill(ofKind, 0);
            ofKind[VANISHES] = state.text(0).letters;
            ofKind[APPEARS] = state.text(1).letters;
        }

        private void pair(int first, int second, int kind) {
            partnerOfFirst[first] = second;
            partnerOfSecond[second] = first;
            kindOfFirst[first] = kind;
            kindOfSecond[second] = kind;
            ofKind[kind]++;
            ofKind[VANISHES]--;
            ofKind[APPEARS]--;
        }

        private void pairCommon() {
            measureLongest();
            int left = longest[0];
            int from = 0;
            for (int first = 0; first < state.text(0).letters && left > 0; first++) {
                int second = partnerThatLeaves(left - 1, first, from);
                if (second != NONE) {
                    pair(first, second, COMMON);
                    from = second + 1;
                    left--;
                }
            }
        }

        /** Fills in how long a sequence of common letters the rests of both texts have from each two letters on. */
        private void measureLongest() {
            Text one = state.text(0);
            Text other = state.text(1);
            Arrays.fill(longest, 0);
            for (int first = one.letters - 1; first >= 0; first--) {
                for (int second = other.letters - 1; second >= 0; second--) {
                    int here = first * SIDE + second;
                    longest[here] = one.codeOf(first) == other.codeOf(second)
                            ? longest[here + SIDE + 1] + 1
                            : Math.max(longest[here + SIDE], longest[here + 1]);
                }
            }
        }

        /** The lowest equal letter of the second text behind which so many common ones are still to be had. */
        private int partnerThatLeaves(int left, int first, int from) {
            int code = state.text(0).codeOf(first);
            for (int second = from; second < state.text(1).letters; second++) {
                if (state.text(1).codeOf(second) == code && longest[(first + 1) * SIDE + second + 1] == left) {
                    return second;
                }
            }
            return NONE;
        }

        /** Pairs the two nearest letters that may be paired, the lowest numbers of several; false if there are none. */
        private boolean pairNearest(int kind, int reach) {
            int bestFirst = NONE;
            int bestSecond = NONE;
            int least = reach + 1;
            for (int first = 0; first < state.text(0).letters; first++) {
                for (int second = 0; second < state.text(1).letters; second++) {
                    if (mayBePaired(first, second, kind) && distance(first, second) < least) {
                        least = distance(first, second);
                        bestFirst = first;
                        bestSecond = second;
                    }
                }
            }
            if (bestFirst == NONE || bestSecond == NONE) {
                return false;
            }
            pair(bestFirst, bestSecond, kind);
            return true;
        }

        private boolean mayBePaired(int first, int second, int kind) {
            if (partnerOfFirst[first] != NONE || partnerOfSecond[second] != NONE) {
                return false;
            }
            if (kind == MOVED && state.text(0).codeOf(first) != state.text(1).codeOf(second)) {
                return false;
            }
            return state.settings[KEEP_LINES] == 0 || state.text(0).rowOf(first) == state.text(1).rowOf(second);
        }
    }

    /** The frames of moving: how the paired pieces go to their goals. */
    static final class Motion {
        final int[] goals = new int[MOST_LETTERS];
        final int[] heldFrames = new int[MOST_LETTERS];
        final int[] arrivals = new int[MOST_LETTERS];
        int frames = 0;
        int heldInAll = 0;
        private final State state;
        private final Pairs pairs;
        private final int[] cells = new int[MOST_LETTERS];
        private final int[] heldLately = new int[MOST_LETTERS];
        private final int[] piecesIn = new int[CELLS];
        private final int[] heldPieces = new int[MOST_MOVING + 1];
        private final int[] track = new int[(MOST_MOVING + 1) * MOST_LETTERS];
        private int away = 0;

        Motion(State state, Pairs pairs) {
            this.state = state;
            this.pairs = pairs;
        }

        void work() {
            start();
            record(0);
            boolean more = away > 0 || pairs.ofKind[CHANGED] > 0;
            for (int next = 1; next <= MOST_MOVING && more; next++) {
                frames = next;
                for (int piece = 0; piece < state.text(0).letters; piece++) {
                    if (isAway(piece)) {
                        moveOrHold(piece, next);
                    }
                }
                record(next);
                more = away > 0;
            }
        }

        /** Where a piece is behind so many frames of moving. */
        int cellAfter(int moved, int piece) {
            return track[moved * MOST_LETTERS + piece];
        }

        boolean isAtGoalAfter(int moved, int piece) {
            return cellAfter(moved, piece) == goals[piece];
        }

        /** How many pieces are held in a frame of moving, from 1; 0 if there is no such frame. */
        int heldIn(int moving) {
            return moving >= 1 && moving <= frames ? heldPieces[moving] : 0;
        }

        private void start() {
            frames = 0;
            heldInAll = 0;
            away = 0;
            Arrays.fill(piecesIn, 0);
            Arrays.fill(heldFrames, 0);
            Arrays.fill(heldLately, 0);
            Arrays.fill(arrivals, 0);
            Arrays.fill(heldPieces, 0);
            for (int piece = 0; piece < state.text(0).letters; piece++) {
                cells[piece] = state.text(0).cells[piece];
                goals[piece] = NONE;
                int partner = pairs.partnerOfFirst[piece];
                // Pieces that vanish are gone before the moving, and so in nobody's way.
                if (partner != NONE) {
                    goals[piece] = state.text(1).cells[partner];
                    piecesIn[cells[piece]]++;
                    away += isAway(piece) ? 1 : 0;
                }
            }
        }

        private void record(int moved) {
            System.arraycopy(cells, 0, track, moved * MOST_LETTERS, MOST_LETTERS);
        }

        private boolean isAway(int piece) {
            return goals[piece] != NONE && cells[piece] != goals[piece];
        }

        private void moveOrHold(int piece, int moving) {
            int next = nextCell(cells[piece], goals[piece]);
            if (piecesIn[next] > 0 && heldLately[piece] < state.settings[PATIENCE]) {
                heldLately[piece]++;
                heldFrames[piece]++;
                heldPieces[moving]++;
                heldInAll++;
                return;
            }
            heldLately[piece] = 0;
            piecesIn[cells[piece]]--;
            piecesIn[next]++;
            cells[piece] = next;
            if (next == goals[piece]) {
                arrivals[piece] = moving;
                away--;
            }
        }

        private int nextCell(int cell, int goal) {
            int columnsLeft = goal % COLUMNS - cell % COLUMNS;
            int rowsLeft = goal / COLUMNS - cell / COLUMNS;
            if (goesAlongRow(Math.abs(columnsLeft), Math.abs(rowsLeft))) {
                return columnsLeft > 0 ? cell + 1 : cell - 1;
            }
            return rowsLeft > 0 ? cell + COLUMNS : cell - COLUMNS;
        }

        private boolean goesAlongRow(int columnsLeft, int rowsLeft) {
            switch (state.settings[WAY]) {
                case 0:
                    return columnsLeft > 0;
                case 1:
                    return rowsLeft == 0;
                default:
                    return columnsLeft >= rowsLeft;
            }
        }
    }

    /** The first text changed into the second: all frames, and what is told of them. */
    static final class Morph {
        final Pairs pairs;
        final Motion motion;
        private final State state;
        private final int[] goneFrom = new int[MOST_LETTERS];
        private final int[] thereFrom = new int[MOST_LETTERS];
        private final int[] shown = new int[CELLS];
        private final int[] shownBefore = new int[CELLS];
        private final int[] piecesIn = new int[CELLS];
        private int stillFrames = 0;

        Morph(State state) {
            this.state = state;
            pairs = new Pairs(state);
            motion = new Motion(state, pairs);
        }

        void work() {
            pairs.work();
            motion.work();
            stillFrames = state.settings[BEGIN_HOLD] + pairs.ofKind[VANISHES];
            int frame = state.settings[BEGIN_HOLD];
            for (int piece = state.text(0).letters - 1; piece >= 0; piece--) {
                if (pairs.kindOfFirst[piece] == VANISHES) {
                    frame++;
                    goneFrom[piece] = frame;
                }
            }
            frame = stillFrames + motion.frames;
            for (int letter = 0; letter < state.text(1).letters; letter++) {
                if (pairs.kindOfSecond[letter] == APPEARS) {
                    frame++;
                    thereFrom[letter] = frame;
                }
            }
        }

        int frames() {
            return 1 + stillFrames + motion.frames + pairs.ofKind[APPEARS] + state.settings[END_HOLD];
        }

        int number(int what) {
            switch (what) {
                case 0:
                    return frames();
                case 1:
                    return state.text(0).letters;
                case 2:
                    return state.text(1).letters;
                case 3:
                    return pairs.ofKind[COMMON];
                case 4:
                    return pairs.ofKind[MOVED];
                case 5:
                    return pairs.ofKind[CHANGED];
                case 6:
                    return pairs.ofKind[VANISHES];
                case 7:
                    return pairs.ofKind[APPEARS];
                case 8:
                    return motion.frames;
                case 9:
                    return distancesOfAll();
                case 10:
                    return stepsOfAll();
                default:
                    return motion.heldInAll;
            }
        }

        int letterProperty(int text, int letter, int what) {
            int partner = text == 0 ? pairs.partnerOfFirst[letter] : pairs.partnerOfSecond[letter];
            switch (what) {
                case 0:
                    return state.text(text).rowOf(letter);
                case 1:
                    return state.text(text).columnOf(letter);
                case 2:
                    return state.text(text).codeOf(letter);
                case 3:
                    return partner;
                case 4:
                    return text == 0 ? pairs.kindOfFirst[letter] : pairs.kindOfSecond[letter];
                default:
                    if (partner == NONE) {
                        return 0;
                    }
                    return text == 0 ? pairs.distance(letter, partner) : pairs.distance(partner, letter);
            }
        }

        int wayProperty(int piece, int what) {
            switch (what) {
                case 0:
                    return steps(piece);
                case 1:
                    return motion.heldFrames[piece];
                default:
                    if (vanishes(piece)) {
                        return goneFrom[piece];
                    }
                    return motion.arrivals[piece] == 0 ? 0 : stillFrames + motion.arrivals[piece];
            }
        }

        int cellOf(int piece, int frame) {
            return isGone(piece, frame) ? NONE : motion.cellAfter(movedBy(frame), piece);
        }

        int codeShown(int frame, int cell) {
            show(frame, shown);
            return shown[cell];
        }

        int frameProperty(int frame, int what) {
            switch (what) {
                case 0:
                    return cellsWithLetters(frame);
                case 1:
                    return frame == 0 ? 0 : cellsThatDiffer(frame);
                case 2:
                    return motion.heldIn(frame - stillFrames);
                case 3:
                    return sharedCells(frame);
                default:
                    return piecesLeft(frame);
            }
        }

        private int distancesOfAll() {
            int sum = 0;
            for (int piece = 0; piece < state.text(0).letters; piece++) {
                sum += vanishes(piece) ? 0 : pairs.distance(piece, pairs.partnerOfFirst[piece]);
            }
            return sum;
        }

        private int stepsOfAll() {
            int sum = 0;
            for (int piece = 0; piece < state.text(0).letters; piece++) {
                sum += steps(piece);
            }
            return sum;
        }

        private int steps(int piece) {
            int partner = pairs.partnerOfFirst[piece];
            if (partner == NONE) {
                return 0;
            }
            return Math.abs(state.text(0).columnOf(piece) - state.text(1).columnOf(partner))
                    + Math.abs(state.text(0).rowOf(piece) - state.text(1).rowOf(partner));
        }

        private boolean vanishes(int piece) {
            return pairs.kindOfFirst[piece] == VANISHES;
        }

        private boolean isGone(int piece, int frame) {
            return vanishes(piece) && frame >= goneFrom[piece];
        }

        /** How many frames of moving there have been with this frame. */
        private int movedBy(int frame) {
            return Math.max(0, Math.min(frame - stillFrames, motion.frames));
        }

        private int pieceCode(int piece, int frame) {
            int moved = movedBy(frame);
            if (pairs.kindOfFirst[piece] == CHANGED && moved > 0 && motion.isAtGoalAfter(moved, piece)) {
                return state.text(1).codeOf(pairs.partnerOfFirst[piece]);
            }
            return state.text(0).codeOf(piece);
        }

        private void show(int frame, int[] codes) {
            Arrays.fill(codes, BLANK);
            for (int letter = 0; letter < state.text(1).letters; letter++) {
                if (pairs.kindOfSecond[letter] == APPEARS && frame >= thereFrom[letter]) {
                    codes[state.text(1).cells[letter]] = state.text(1).codeOf(letter);
                }
            }
            // The lowest number comes last, since it is the one that is shown.
            for (int piece = state.text(0).letters - 1; piece >= 0; piece--) {
                int cell = cellOf(piece, frame);
                if (cell != NONE) {
                    codes[cell] = pieceCode(piece, frame);
                }
            }
        }

        private int cellsWithLetters(int frame) {
            show(frame, shown);
            int letters = 0;
            for (int cell = 0; cell < CELLS; cell++) {
                letters += shown[cell] == BLANK ? 0 : 1;
            }
            return letters;
        }

        private int cellsThatDiffer(int frame) {
            show(frame - 1, shownBefore);
            show(frame, shown);
            int different = 0;
            for (int cell = 0; cell < CELLS; cell++) {
                different += shown[cell] == shownBefore[cell] ? 0 : 1;
            }
            return different;
        }

        private int sharedCells(int frame) {
            Arrays.fill(piecesIn, 0);
            int shared = 0;
            for (int piece = 0; piece < state.text(0).letters; piece++) {
                int cell = cellOf(piece, frame);
                if (cell != NONE) {
                    piecesIn[cell]++;
                    shared += piecesIn[cell] == 2 ? 1 : 0;
                }
            }
            return shared;
        }

        private int piecesLeft(int frame) {
            int left = 0;
            for (int piece = 0; piece < state.text(0).letters; piece++) {
                left += isGone(piece, frame) ? 0 : 1;
            }
            return left;
        }
    }
}

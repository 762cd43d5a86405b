import java.util.ArrayDeque;
import java.util.ArrayList;
import java.util.Arrays;
import java.util.List;

/**
 * The document once more, written plainly and without regard to cost: whole frames are built one from the
 * other and kept, so that TextMorph, which keeps the tracks of pieces alone, can be held against it.
 */
final class Oracle {
    private static final int[] LEAST = {1, 0, 0, 0, 0, 0, 0, 0};
    private static final int[] MOST = {9, 200, 200, 1, 2, 9, 20, 20};

    private char[][] texts = {blank(), blank()};
    private int[] settings = {2, 60, 12, 0, 0, 3, 2, 2};
    private final ArrayDeque<Object[]> saved = new ArrayDeque<>();
    private String buffer = "";
    private Plan plan = null;

    private static char[] blank() {
        char[] cells = new char[80];
        Arrays.fill(cells, ' ');
        return cells;
    }

    private static boolean isLetter(int code) {
        return code >= 'a' && code <= 'z';
    }

    private static void index(boolean fits) {
        if (!fits) {
            throw new IndexOutOfBoundsException();
        }
    }

    private static void argument(boolean fits) {
        if (!fits) {
            throw new IllegalArgumentException();
        }
    }

    private static void state(boolean fits) {
        if (!fits) {
            throw new IllegalStateException();
        }
    }

    private void save() {
        saved.addLast(new Object[] {texts[0].clone(), texts[1].clone(), settings.clone()});
        if (saved.size() > 6) {
            saved.removeFirst();
        }
        plan = null;
    }

    private static int lettersIn(char[] text) {
        int letters = 0;
        for (char c : text) {
            letters += c == ' ' ? 0 : 1;
        }
        return letters;
    }

    int begin() {
        save();
        int letters = lettersIn(texts[0]) + lettersIn(texts[1]);
        texts = new char[][] {blank(), blank()};
        settings = new int[] {2, 60, 12, 0, 0, 3, 2, 2};
        return letters;
    }

    int set(int setting, int value) {
        index(setting >= 0 && setting < 8);
        argument(value >= LEAST[setting] && value <= MOST[setting]);
        save();
        int old = settings[setting];
        settings[setting] = value;
        return old;
    }

    int load(int text) {
        index(text == 0 || text == 1);
        argument(firstError() == buffer.length());
        save();
        char[] cells = blank();
        String[] rows = buffer.split("/", -1);
        for (int row = 0; row < rows.length; row++) {
            for (int column = 0; column < rows[row].length(); column++) {
                cells[16 * row + column] = rows[row].charAt(column) == '.' ? ' ' : rows[row].charAt(column);
            }
        }
        texts[text] = cells;
        buffer = "";
        return lettersIn(cells);
    }

    int put(int text, int row, int column, int code) {
        index((text == 0 || text == 1) && row >= 0 && row < 5 && column >= 0 && column < 16);
        argument(code == 32 || isLetter(code));
        char[] changed = texts[text].clone();
        changed[16 * row + column] = (char) code;
        state(lettersIn(changed) <= 40);
        save();
        int old = texts[text][16 * row + column];
        texts[text] = changed;
        return old;
    }

    int swap() {
        save();
        texts = new char[][] {texts[1], texts[0]};
        return count(0);
    }

    int undo() {
        state(!saved.isEmpty());
        Object[] latest = saved.removeLast();
        texts = new char[][] {(char[]) latest[0], (char[]) latest[1]};
        settings = (int[]) latest[2];
        plan = null;
        return saved.size();
    }

    int append(int code) {
        argument(code >= 33 && code <= 126);
        state(buffer.length() < 60);
        buffer += (char) code;
        return buffer.length();
    }

    int clearBuffer() {
        int length = buffer.length();
        buffer = "";
        return length;
    }

    int firstError() {
        for (int i = 0; i < buffer.length(); i++) {
            String read = buffer.substring(0, i + 1);
            String row = read.substring(read.lastIndexOf('/') + 1);
            char last = buffer.charAt(i);
            boolean wrong = last != '/' && last != '.' && !isLetter(last);
            wrong |= row.length() > 16;
            wrong |= read.replaceAll("[^/]", "").length() > 4;
            wrong |= read.replaceAll("[^a-z]", "").length() > 40;
            if (wrong) {
                return i;
            }
        }
        return buffer.length();
    }

    int letter(int text, int letter, int what) {
        index((text == 0 || text == 1) && letter >= 0 && letter < lettersIn(texts[text]));
        argument(what >= 0 && what < 6);
        Plan p = plan();
        int cell = p.cells.get(text).get(letter);
        int partner = p.partner[text][letter];
        int kind = p.kind[text][letter];
        int distance = partner < 0 ? 0 : text == 0 ? p.distance(letter, partner) : p.distance(partner, letter);
        return new int[] {cell / 16, cell % 16, texts[text][cell], partner, kind, distance}[what];
    }

    int way(int piece, int what) {
        index(piece >= 0 && piece < lettersIn(texts[0]));
        argument(what >= 0 && what < 3);
        return plan().way(piece, what);
    }

    int at(int frame, int row, int column) {
        index(frame >= 0 && frame < count(0) && row >= 0 && row < 5 && column >= 0 && column < 16);
        return plan().shown(frame)[16 * row + column];
    }

    int place(int frame, int piece) {
        index(frame >= 0 && frame < count(0) && piece >= 0 && piece < lettersIn(texts[0]));
        return plan().frames.get(frame).where[piece];
    }

    int frame(int frame, int what) {
        index(frame >= 0 && frame < count(0));
        argument(what >= 0 && what < 5);
        return plan().frame(frame, what);
    }

    int count(int what) {
        argument(what >= 0 && what < 13);
        return what == 12 ? saved.size() : plan().number(what);
    }

    int setting(int setting) {
        index(setting >= 0 && setting < 8);
        return settings[setting];
    }

    int ifSet(int setting, int value, int what) {
        index(setting >= 0 && setting < 8);
        argument(value >= LEAST[setting] && value <= MOST[setting] && what >= 0 && what < 12);
        int[] other = settings.clone();
        other[setting] = value;
        return new Plan(texts[0], texts[1], other).number(what);
    }

    int best() {
        int[] bestSoFar = null;
        for (int way = 0; way < 3; way++) {
            for (int patience = 0; patience < 10; patience++) {
                int[] other = settings.clone();
                other[4] = way;
                other[5] = patience;
                Plan p = new Plan(texts[0], texts[1], other);
                int[] now = {p.number(0), p.number(11), way, patience};
                if (bestSoFar == null || Arrays.compare(now, bestSoFar) < 0) {
                    bestSoFar = now;
                }
            }
        }
        return 10 * bestSoFar[2] + bestSoFar[3];
    }

    double likeness() {
        double letters = count(1) + count(2);
        return letters == 0 ? 1.0 : 2.0 * count(3) / letters;
    }

    long digest() {
        ArrayList<Long> values = new ArrayList<>();
        for (int i = 0; i < 13; i++) {
            values.add((long) count(i));
        }
        for (int i = 0; i < 8; i++) {
            values.add((long) setting(i));
        }
        for (int text = 0; text < 2; text++) {
            for (int i = 0; i < count(1 + text); i++) {
                for (int what = 0; what < 6; what++) {
                    values.add((long) letter(text, i, what));
                }
            }
        }
        for (int i = 0; i < count(1); i++) {
            for (int what = 0; what < 3; what++) {
                values.add((long) way(i, what));
            }
        }
        for (int i = 0; i < count(0); i++) {
            for (int what = 0; what < 5; what++) {
                values.add((long) frame(i, what));
            }
        }
        for (int cell = 0; cell < 80; cell++) {
            values.add((long) at((count(0) - 1) / 2, cell / 16, cell % 16));
        }
        values.add((long) best());
        values.add(Double.doubleToLongBits(likeness()));
        values.add((long) buffer.length());
        for (char c : buffer.toCharArray()) {
            values.add((long) c);
        }
        long hash = 2111;
        for (long v : values) {
            hash = 31 * hash + v;
        }
        return hash;
    }

    private Plan plan() {
        if (plan == null) {
            plan = new Plan(texts[0], texts[1], settings.clone());
        }
        return plan;
    }

    /** A frame, whole. */
    private static final class Frame {
        int[] where;
        char[] letters;
        boolean[] there;
        int held;

        Frame next() {
            Frame next = new Frame();
            next.where = where.clone();
            next.letters = letters.clone();
            next.there = there.clone();
            return next;
        }
    }

    /** The pairs and the frames of two texts with some settings. */
    private static final class Plan {
        final char[][] texts;
        final int[] settings;
        final List<List<Integer>> cells = List.of(new ArrayList<>(), new ArrayList<>());
        final int[][] partner = new int[2][];
        final int[][] kind = new int[2][];
        final List<Frame> frames = new ArrayList<>();
        int moving = 0;
        final int[] heldOf;

        Plan(char[] first, char[] second, int[] settings) {
            texts = new char[][] {first, second};
            this.settings = settings;
            for (int text = 0; text < 2; text++) {
                for (int cell = 0; cell < 80; cell++) {
                    if (texts[text][cell] != ' ') {
                        cells.get(text).add(cell);
                    }
                }
                partner[text] = new int[cells.get(text).size()];
                kind[text] = new int[cells.get(text).size()];
                Arrays.fill(partner[text], -1);
                Arrays.fill(kind[text], text == 0 ? 4 : 5);
            }
            heldOf = new int[cells.get(0).size()];
            pairCommon();
            pairNear(2, settings[1]);
            pairNear(3, settings[2]);
            film();
        }

        char codeOf(int text, int letter) {
            return texts[text][cells.get(text).get(letter)];
        }

        int distance(int i, int j) {
            int a = cells.get(0).get(i);
            int b = cells.get(1).get(j);
            return Math.abs(a % 16 - b % 16) + settings[0] * Math.abs(a / 16 - b / 16);
        }

        int steps(int i) {
            if (partner[0][i] < 0) {
                return 0;
            }
            int a = cells.get(0).get(i);
            int b = cells.get(1).get(partner[0][i]);
            return Math.abs(a % 16 - b % 16) + Math.abs(a / 16 - b / 16);
        }

        private void join(int i, int j, int how) {
            partner[0][i] = j;
            partner[1][j] = i;
            kind[0][i] = how;
            kind[1][j] = how;
        }

        /** Of two sequences i0, j0, i1, j1, .. the one that the document takes. */
        private static boolean before(List<Integer> a, List<Integer> b) {
            if (a.size() != b.size()) {
                return a.size() > b.size();
            }
            for (int k = 0; k < a.size(); k++) {
                if (!a.get(k).equals(b.get(k))) {
                    return a.get(k) < b.get(k);
                }
            }
            return false;
        }

        private void pairCommon() {
            int m = cells.get(0).size();
            int n = cells.get(1).size();
            List<List<List<Integer>>> of = new ArrayList<>();
            for (int i = 0; i <= m; i++) {
                of.add(new ArrayList<>());
                for (int j = 0; j <= n; j++) {
                    of.get(i).add(List.of());
                }
            }
            for (int i = m - 1; i >= 0; i--) {
                for (int j = n - 1; j >= 0; j--) {
                    List<Integer> chosen = of.get(i + 1).get(j);
                    for (int k = j; k < n; k++) {
                        if (codeOf(0, i) == codeOf(1, k) && of.get(i + 1).get(k + 1).size() + 2 >= chosen.size()) {
                            List<Integer> with = new ArrayList<>(List.of(i, k));
                            with.addAll(of.get(i + 1).get(k + 1));
                            if (before(with, chosen)) {
                                chosen = with;
                            }
                        }
                    }
                    of.get(i).set(j, chosen);
                }
            }
            List<Integer> all = of.get(0).get(0);
            for (int k = 0; k < all.size(); k += 2) {
                join(all.get(k), all.get(k + 1), 1);
            }
        }

        /** All pairs that may be joined, in the order of the document, each taken if both are still free. */
        private void pairNear(int how, int reach) {
            List<int[]> candidates = new ArrayList<>();
            for (int i = 0; i < cells.get(0).size(); i++) {
                for (int j = 0; j < cells.get(1).size(); j++) {
                    boolean sameRow = cells.get(0).get(i) / 16 == cells.get(1).get(j) / 16;
                    boolean fits = how == 3 || codeOf(0, i) == codeOf(1, j);
                    if (fits && distance(i, j) <= reach && (settings[3] == 0 || sameRow)) {
                        candidates.add(new int[] {distance(i, j), i, j});
                    }
                }
            }
            candidates.sort(Arrays::compare);
            for (int[] c : candidates) {
                if (partner[0][c[1]] < 0 && partner[1][c[2]] < 0) {
                    join(c[1], c[2], how);
                }
            }
        }

        private Frame last() {
            return frames.get(frames.size() - 1);
        }

        private void film() {
            Frame first = new Frame();
            first.where = cells.get(0).stream().mapToInt(c -> c).toArray();
            first.letters = new char[first.where.length];
            for (int i = 0; i < first.letters.length; i++) {
                first.letters[i] = codeOf(0, i);
            }
            first.there = new boolean[cells.get(1).size()];
            frames.add(first);
            for (int i = 0; i < settings[6]; i++) {
                frames.add(last().next());
            }
            for (int i = cells.get(0).size() - 1; i >= 0; i--) {
                if (kind[0][i] == 4) {
                    Frame next = last().next();
                    next.where[i] = -1;
                    frames.add(next);
                }
            }
            move();
            for (int j = 0; j < cells.get(1).size(); j++) {
                if (kind[1][j] == 5) {
                    Frame next = last().next();
                    next.there[j] = true;
                    frames.add(next);
                }
            }
            for (int i = 0; i < settings[7]; i++) {
                frames.add(last().next());
            }
        }

        private int goal(int i) {
            return partner[0][i] < 0 ? -1 : cells.get(1).get(partner[0][i]);
        }

        private boolean allHome(Frame f) {
            for (int i = 0; i < f.where.length; i++) {
                if (goal(i) >= 0 && f.where[i] != goal(i)) {
                    return false;
                }
            }
            return true;
        }

        private void move() {
            boolean changes = Arrays.stream(kind[0]).anyMatch(k -> k == 3);
            List<boolean[]> heldIn = new ArrayList<>();
            while (!allHome(last()) || changes && moving == 0) {
                Frame f = last().next();
                boolean[] held = new boolean[f.where.length];
                for (int i = 0; i < f.where.length; i++) {
                    if (goal(i) < 0 || f.where[i] == goal(i)) {
                        continue;
                    }
                    int to = next(f.where[i], goal(i));
                    boolean taken = false;
                    for (int other = 0; other < f.where.length; other++) {
                        taken |= other != i && f.where[other] == to;
                    }
                    int lately = 0;
                    while (lately < heldIn.size() && heldIn.get(heldIn.size() - 1 - lately)[i]) {
                        lately++;
                    }
                    if (taken && lately != settings[5]) {
                        held[i] = true;
                        f.held++;
                        heldOf[i]++;
                    } else {
                        f.where[i] = to;
                    }
                }
                for (int i = 0; i < f.where.length; i++) {
                    if (kind[0][i] == 3 && f.where[i] == goal(i)) {
                        f.letters[i] = codeOf(1, partner[0][i]);
                    }
                }
                heldIn.add(held);
                frames.add(f);
                moving++;
            }
        }

        private int next(int cell, int goal) {
            int dc = goal % 16 - cell % 16;
            int dr = goal / 16 - cell / 16;
            boolean row = settings[4] == 0 && dc != 0 || settings[4] == 1 && dr == 0
                    || settings[4] == 2 && Math.abs(dc) >= Math.abs(dr);
            return row ? cell + Integer.signum(dc) : cell + 16 * Integer.signum(dr);
        }

        int way(int i, int what) {
            if (what < 2) {
                return what == 0 ? steps(i) : heldOf[i];
            }
            int f = 0;
            while (frames.get(f).where[i] != goal(i)) {
                f++;
            }
            return f;
        }

        char[] shown(int frame) {
            Frame f = frames.get(frame);
            char[] cell = blank();
            for (int c = 0; c < 80; c++) {
                for (int j = 0; j < f.there.length; j++) {
                    if (f.there[j] && cells.get(1).get(j) == c) {
                        cell[c] = codeOf(1, j);
                    }
                }
                for (int i = 0; i < f.where.length; i++) {
                    if (f.where[i] == c) {
                        cell[c] = f.letters[i];
                        break;
                    }
                }
            }
            return cell;
        }

        int frame(int frame, int what) {
            Frame f = frames.get(frame);
            int answer = 0;
            int[] inCell = new int[80];
            for (int where : f.where) {
                answer += what == 4 && where >= 0 ? 1 : 0;
                if (where >= 0) {
                    inCell[where]++;
                }
            }
            if (what == 0) {
                return lettersIn(shown(frame));
            }
            if (what == 2) {
                return f.held;
            }
            for (int c = 0; c < 80; c++) {
                answer += what == 1 && frame > 0 && shown(frame)[c] != shown(frame - 1)[c] ? 1 : 0;
                answer += what == 3 && inCell[c] > 1 ? 1 : 0;
            }
            return answer;
        }

        int number(int what) {
            int distances = 0;
            int steps = 0;
            int[] ofKind = new int[6];
            for (int i = 0; i < cells.get(0).size(); i++) {
                ofKind[kind[0][i]]++;
                distances += partner[0][i] < 0 ? 0 : distance(i, partner[0][i]);
                steps += steps(i);
            }
            for (int j = 0; j < cells.get(1).size(); j++) {
                ofKind[5] += kind[1][j] == 5 ? 1 : 0;
            }
            return new int[] {frames.size(), cells.get(0).size(), cells.get(1).size(), ofKind[1], ofKind[2], ofKind[3],
                ofKind[4], ofKind[5], moving, distances, steps, Arrays.stream(heldOf).sum()}[what];
        }
    }
}

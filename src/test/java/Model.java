import java.util.ArrayList;
import java.util.Arrays;
import java.util.HashSet;
import java.util.List;
import java.util.Set;

/** The document told again in the plainest way: every row of PARTS is tried, every minute is looked at, nothing is kept. */
final class Model {
    static final List<String> WORDS = Arrays.asList("part", "worker", "high", "tide", "sun", "slip", "dog", "holds", "peg",
        "seed", "if", "then", "else", "x", "y", "minute", "far", "off");
    static final List<String> LAWS = Arrays.asList("high", "tide", "sun", "slip", "dog");

    /** x, y, minute, far, off. */
    interface Sum {
        int of(int[] vars);
    }

    @SuppressWarnings("serial")
    static final class Fault extends RuntimeException {
        final int number;
        final int place;

        Fault(int number, int place) {
            this.number = number;
            this.place = place;
        }
    }

    record Token(String text, int place, char kind) {
    }

    static final class Text {
        List<int[]> parts = new ArrayList<>();
        List<int[]> workers = new ArrayList<>();
        Sum[] laws = {v -> v[1], v -> 0, v -> 100, v -> v[3], v -> 0};
        int from = 1;
        int to = 600;
        int pegX;
        int pegY;
        int seed;
    }

    static final class State {
        int[][] workers;
        int[] done = {-2, -2, -2, -2, -2, -2, -2, -2};
        int[] mended = {-2, -2, -2, -2, -2, -2, -2, -2};
        int[] by = {-2, -2, -2, -2, -2, -2, -2, -2};
        boolean[] crossed = new boolean[8];
        List<int[]> acts = new ArrayList<>();

        State(Text text) {
            workers = new int[text.workers.size()][];
            for (int i = 0; i < workers.length; i++) {
                int[] w = text.workers.get(i);
                workers[i] = new int[] {w[0], w[1], 0, w[2], 0};
            }
        }

        State(State other) {
            workers = new int[other.workers.length][];
            for (int i = 0; i < workers.length; i++) {
                workers[i] = other.workers[i].clone();
            }
            done = other.done.clone();
            mended = other.mended.clone();
            by = other.by.clone();
            crossed = other.crossed.clone();
            acts = new ArrayList<>(other.acts);
        }
    }

    StringBuilder tape = new StringBuilder();
    int place = -1;
    Text text = new Text();
    State state = new State(text);
    List<State> past = new ArrayList<>();
    State[] slots = new State[3];
    List<int[]> told = new ArrayList<>();

    // ---- the text

    private static List<Token> tokens(String text) {
        List<Token> all = new ArrayList<>();
        int i = 0;
        while (i < text.length()) {
            char c = text.charAt(i);
            int end = i + 1;
            if ("\t\n\r ".indexOf(c) >= 0) {
                i = end;
                continue;
            }
            char kind = '?';
            if (c >= 'a' && c <= 'z') {
                while (end < text.length() && text.charAt(end) >= 'a' && text.charAt(end) <= 'z') {
                    end++;
                }
                kind = WORDS.contains(text.substring(i, end)) ? 'w' : end - i <= 8 ? 'n' : '?';
            } else if (c >= '0' && c <= '9') {
                while (end < text.length() && text.charAt(end) >= '0' && text.charAt(end) <= '9') {
                    end++;
                }
                kind = end - i <= 4 ? 'i' : '?';
            } else if (";=+-*/<()".indexOf(c) >= 0) {
                kind = 's';
            }
            all.add(new Token(text.substring(i, end), i, kind));
            i = end;
        }
        all.add(new Token("", text.length(), 'e'));
        return all;
    }

    private static final class Parser {
        final List<Token> tokens;
        int at;
        final Text text = new Text();
        final Set<String> names = new HashSet<>();
        final List<Fault> milder = new ArrayList<>();

        Parser(List<Token> tokens) {
            this.tokens = tokens;
        }

        boolean sees(String what) {
            Token t = tokens.get(at);
            return (t.kind == 'w' || t.kind == 's') && t.text.equals(what);
        }

        Token next(boolean fits) {
            Token t = tokens.get(at);
            if (!fits) {
                throw new Fault(1, t.place);
            }
            if (at == 400) {
                throw new Fault(2, t.place);
            }
            at++;
            return t;
        }

        void want(String what) {
            next(sees(what));
        }

        void name() {
            Token t = next(tokens.get(at).kind == 'n');
            if (!names.add(t.text)) {
                milder.add(new Fault(3, t.place));
            }
        }

        int number(int least, int most) {
            Token t = next(tokens.get(at).kind == 'i');
            int n = Integer.parseInt(t.text);
            if (n < least || n > most) {
                milder.add(new Fault(5, t.place));
            }
            return n;
        }

        void full() {
            throw new Fault(2, tokens.get(at).place);
        }

        Text all() {
            while (tokens.get(at).kind != 'e') {
                tell();
            }
            if (!milder.isEmpty()) {
                throw milder.get(0);
            }
            return text;
        }

        void tell() {
            String word = tokens.get(at).kind == 'w' ? tokens.get(at).text : "";
            if (word.equals("part")) {
                if (text.parts.size() == 8) {
                    full();
                }
                want("part");
                name();
                text.parts.add(new int[] {number(0, 99), number(0, 99), number(0, 99), number(1, 60)});
            } else if (word.equals("worker")) {
                if (text.workers.size() == 3) {
                    full();
                }
                want("worker");
                name();
                text.workers.add(new int[] {number(0, 99), number(0, 99), number(1, 20)});
            } else if (LAWS.contains(word)) {
                want(word);
                text.laws[LAWS.indexOf(word)] = law();
            } else if (word.equals("holds")) {
                want(word);
                text.from = number(1, 600);
                text.to = number(1, 600);
            } else if (word.equals("peg")) {
                want(word);
                text.pegX = number(0, 99);
                text.pegY = number(0, 99);
            } else if (word.equals("seed")) {
                want(word);
                text.seed = number(0, 9999);
            } else {
                next(false);
            }
            want(";");
        }

        Sum law() {
            want("=");
            List<Sum[]> ifs = new ArrayList<>();
            while (sees("if")) {
                if (ifs.size() == 4) {
                    full();
                }
                want("if");
                Sum left = sum(0);
                want("<");
                Sum right = sum(0);
                want("then");
                Sum then = sum(0);
                want("else");
                ifs.add(new Sum[] {left, right, then});
            }
            Sum last = sum(0);
            return v -> {
                for (Sum[] one : ifs) {
                    if (one[0].of(v) < one[1].of(v)) {
                        return one[2].of(v);
                    }
                }
                return last.of(v);
            };
        }

        Sum sum(int depth) {
            Sum value = product(depth);
            while (sees("+") || sees("-")) {
                boolean plus = next(true).text.equals("+");
                Sum left = value;
                Sum right = product(depth);
                value = plus ? v -> left.of(v) + right.of(v) : v -> left.of(v) - right.of(v);
            }
            return value;
        }

        Sum product(int depth) {
            Sum value = unit(depth);
            while (sees("*") || sees("/")) {
                boolean times = next(true).text.equals("*");
                Sum left = value;
                Sum right = unit(depth);
                value = times ? v -> left.of(v) * right.of(v) : v -> left.of(v) / right.of(v);
            }
            return value;
        }

        Sum unit(int depth) {
            Token t = tokens.get(at);
            if (t.kind == 'i') {
                int n = number(0, 9999);
                return v -> n;
            }
            int var = Arrays.asList("x", "y", "minute", "far", "off").indexOf(t.text);
            if (var >= 0) {
                next(true);
                return v -> v[var];
            }
            if (!sees("(")) {
                next(false);
            }
            if (depth == 6) {
                full();
            }
            want("(");
            Sum inner = sum(depth + 1);
            want(")");
            return inner;
        }
    }

    int feed(int... words) {
        if (tape.length() + 20 > 2000) {
            return -1;
        }
        for (int w : words) {
            tape.append((char) (w >>> 24)).append((char) (w >>> 16 & 255)).append((char) (w >>> 8 & 255)).append((char) (w & 255));
        }
        return tape.length();
    }

    int back(int n) {
        if (n < 0 || n > tape.length()) {
            return -1;
        }
        tape.setLength(tape.length() - n);
        return tape.length();
    }

    int read() {
        String all = tape.toString();
        tape.setLength(0);
        place = -1;
        try {
            text = new Parser(tokens(all)).all();
        } catch (Fault fault) {
            place = fault.place;
            return fault.number;
        }
        state = new State(text);
        past.clear();
        slots = new State[3];
        told.clear();
        return 0;
    }

    // ---- the day

    private int law(int which, int least, int most, int... vars) {
        int value;
        try {
            value = text.laws[which].of(vars);
        } catch (ArithmeticException e) {
            value = 0;
        }
        return value < least ? least : value > most ? most : value;
    }

    int highAt(int x, int y) {
        return law(0, -9999, 9999, x, y, 0, 0, 0);
    }

    int high(int p) {
        return highAt(text.parts.get(p)[0], text.parts.get(p)[1]);
    }

    int tide(int m) {
        return law(1, -9999, 9999, 0, 0, m, 0, 0);
    }

    int sun(int m) {
        return law(2, 0, 100, 0, 0, m, 0, 0);
    }

    int slip(int far, int off) {
        return law(3, 0, 9999, 0, 0, 0, far, off);
    }

    int dogAt(int p, int m) {
        return law(4, 0, 100, text.parts.get(p)[0], text.parts.get(p)[1], m, 0, 0);
    }

    int freeOf(int high, int m) {
        int n = 0;
        while (m - n >= 0 && tide(m - n) < high) {
            n++;
        }
        return n;
    }

    boolean holdsOf(int high, int m) {
        int n = freeOf(high, m);
        return n >= text.from && n <= text.to;
    }

    /** Tides are asked for often: whether each minute HOLDS is looked up by how HIGH. */
    final java.util.HashMap<Integer, boolean[]> holdsByHigh = new java.util.HashMap<>();
    Text holdsText;

    boolean[] holdsRow(int high) {
        if (holdsText != text) {
            holdsByHigh.clear();
            holdsText = text;
        }
        return holdsByHigh.computeIfAbsent(high, h -> {
            boolean[] row = new boolean[600];
            for (int m = 0; m < 600; m++) {
                row[m] = holdsOf(h, m);
            }
            return row;
        });
    }

    int startOf(int high, int minutes, int from) {
        boolean[] holds = holdsRow(high);
        for (int t = from; t + minutes <= 600; t++) {
            boolean all = true;
            for (int u = t; u < t + minutes && all; u++) {
                all = holds[u];
            }
            if (all) {
                return t;
            }
        }
        return -2;
    }

    boolean covered(int p, int m) {
        return tide(m) >= high(p);
    }

    boolean washed(State s, int p, int m) {
        for (int u = s.done[p]; u <= m && u < 600; u++) {
            if (covered(p, u)) {
                return true;
            }
        }
        return false;
    }

    static int way(int x, int y, int toX, int toY, int speed) {
        int far = Math.abs(x - toX) + Math.abs(y - toY);
        return far / speed + (far % speed == 0 ? 0 : 1);
    }

    int comes(State s, int w, int p) {
        int[] worker = s.workers[w];
        return worker[2] + way(worker[0], worker[1], text.parts.get(p)[0], text.parts.get(p)[1], worker[3]);
    }

    int send(State s, int w, int p) {
        int come = comes(s, w, p);
        if (s.done[p] >= 0 && !washed(s, p, come)) {
            return -2;
        }
        int[] part = text.parts.get(p);
        int t = startOf(high(p), part[3], come);
        if (t < 0) {
            return -2;
        }
        int end = t + part[3];
        s.done[p] = end;
        s.mended[p] = -2;
        s.crossed[p] = false;
        s.by[p] = w;
        s.workers[w] = new int[] {part[0], part[1], end, s.workers[w][3], s.workers[w][4] + part[2]};
        s.acts.add(new int[] {0, w, p});
        return end;
    }

    boolean cross(State s, int p) {
        if (s.done[p] < 0 || s.crossed[p]) {
            return false;
        }
        s.crossed[p] = true;
        s.acts.add(new int[] {1, 0, p});
        return true;
    }

    int mend(State s, int w, int p) {
        int[] part = text.parts.get(p);
        int end = comes(s, w, p) + (part[3] + 2) / 3;
        if (!s.crossed[p] || end > 600) {
            return -2;
        }
        s.crossed[p] = false;
        s.mended[p] = end;
        s.workers[w] = new int[] {part[0], part[1], end, s.workers[w][3], s.workers[w][4]};
        s.acts.add(new int[] {2, w, p});
        return end;
    }

    boolean isSeen(State s, int p, int m) {
        return s.done[p] >= 0 && s.done[p] <= m && s.mended[p] <= m && !s.crossed[p] && !washed(s, p, m);
    }

    int seen(State s, int m) {
        int bits = 0;
        for (int p = 0; p < text.parts.size(); p++) {
            bits |= isSeen(s, p, m) ? 1 << p : 0;
        }
        return bits;
    }

    int worth(int bits) {
        int sum = 0;
        for (int p = 0; p < text.parts.size(); p++) {
            sum += (bits >> p & 1) * text.parts.get(p)[2];
        }
        return sum;
    }

    // ---- by hand

    private int acted(State before, int answer) {
        if (answer >= 0) {
            past.add(before);
            if (past.size() > 40) {
                past.remove(0);
            }
        }
        return answer;
    }

    boolean part(int p) {
        return p >= 0 && p < text.parts.size();
    }

    boolean worker(int w) {
        return w >= 0 && w < text.workers.size();
    }

    static boolean minute(int m) {
        return m >= 0 && m < 600;
    }

    static boolean bound(int b) {
        return b >= 0 && b <= 600;
    }

    int send(int w, int p) {
        if (!worker(w) || !part(p)) {
            return -1;
        }
        State before = new State(state);
        return acted(before, send(state, w, p));
    }

    boolean cross(int p) {
        if (!part(p)) {
            return false;
        }
        State before = new State(state);
        return acted(before, cross(state, p) ? 1 : -2) == 1;
    }

    int mend(int w, int p) {
        if (!worker(w) || !part(p)) {
            return -1;
        }
        State before = new State(state);
        return acted(before, mend(state, w, p));
    }

    boolean undo() {
        if (past.isEmpty()) {
            return false;
        }
        state = past.remove(past.size() - 1);
        return true;
    }

    // ---- what would be

    /** A row of PARTS, when each of them ends, when the row ends, and its bits. */
    record Row(List<Integer> parts, List<Integer> ends, int end, int bits) {
    }

    /** What a WORKER does with a PART from a state: -2 if he can't. */
    interface Doing {
        int act(State s, int p);
    }

    List<Row> rows(State s, int w, int b, Doing doing) {
        List<Row> all = new ArrayList<>();
        extend(s, w, b, doing, new Row(List.of(), List.of(), s.workers[w][2], 0), all);
        return all;
    }

    private void extend(State s, int w, int b, Doing doing, Row row, List<Row> all) {
        all.add(row);
        for (int p = 0; p < text.parts.size(); p++) {
            if (row.parts.contains(p)) {
                continue;
            }
            State next = new State(s);
            int end = doing.act(next, p);
            if (end >= 0 && end <= b) {
                extend(next, w, b, doing, new Row(with(row.parts, p), with(row.ends, end), end, row.bits | 1 << p), all);
            }
        }
    }

    private static List<Integer> with(List<Integer> all, int one) {
        List<Integer> more = new ArrayList<>(all);
        more.add(one);
        return more;
    }

    /** The rows of which each row up to a PART is DONE as soon as it can be, by these PARTS with that one the last. */
    private static List<Row> prompt(List<Row> rows) {
        int[] soonest = new int[256 * 8];
        Arrays.fill(soonest, Integer.MAX_VALUE);
        for (Row row : rows) {
            if (row.bits != 0) {
                int at = row.bits * 8 + row.parts.get(row.parts.size() - 1);
                soonest[at] = Math.min(soonest[at], row.end);
            }
        }
        List<Row> all = new ArrayList<>();
        for (Row row : rows) {
            int bits = 0;
            boolean fits = true;
            for (int i = 0; i < row.parts.size(); i++) {
                bits |= 1 << row.parts.get(i);
                fits &= row.ends.get(i) == soonest[bits * 8 + row.parts.get(i)];
            }
            if (fits) {
                all.add(row);
            }
        }
        return all;
    }

    List<Row> rakings(State s, int w, int b) {
        return rows(s, w, b, (t, p) -> t.done[p] >= 0 ? -2 : send(t, w, p));
    }

    Row best(List<Row> rows) {
        Row best = rows.get(0);
        for (Row row : prompt(rows)) {
            int more = worth(row.bits) - worth(best.bits);
            int later = row.end - best.end;
            boolean better = more > 0 || more == 0 && (later < 0 || later == 0 && (row.bits < best.bits
                || row.bits == best.bits && before(row.parts, best.parts)));
            if (better) {
                best = row;
            }
        }
        return best;
    }

    private static boolean before(List<Integer> a, List<Integer> b) {
        for (int i = a.size() - 1; i >= 0; i--) {
            if (!a.get(i).equals(b.get(i))) {
                return a.get(i) < b.get(i);
            }
        }
        return false;
    }

    private static int answer(Row row, int what, int worth) {
        return what == 0 ? worth : what == 1 ? row.end : what == 2 ? row.bits : -1;
    }

    int plan(int w, int b, int what) {
        if (!worker(w) || !bound(b)) {
            return -1;
        }
        Row row = best(rakings(state, w, b));
        return answer(row, what, worth(row.bits));
    }

    int planAt(int w, int b, int i) {
        if (!worker(w) || !bound(b) || i < 0) {
            return -1;
        }
        Row row = best(rakings(state, w, b));
        return i < row.parts.size() ? row.parts.get(i) : -2;
    }

    int mends(int w, int b, int what) {
        if (!worker(w) || !bound(b)) {
            return -1;
        }
        Row row = best(rows(state, w, b, (t, p) -> mend(t, w, p)));
        return answer(row, what, worth(row.bits));
    }

    boolean[] can(List<Row> rows) {
        boolean[] can = new boolean[256];
        for (Row row : rows) {
            can[row.bits] = true;
        }
        return can;
    }

    int two(int w, int o, int b, int what) {
        if (!worker(w) || !worker(o) || w == o || !bound(b) || what < 0 || what > 2) {
            return -1;
        }
        boolean[] first = can(rakings(state, w, b));
        boolean[] second = can(rakings(state, o, b));
        int[] best = {-1, 0, 0};
        for (int one = 0; one < 256; one++) {
            for (int other = 0; other < 256; other++) {
                boolean fits = (one & other) == 0 && first[one] && second[other];
                if (fits && worth(one | other) > best[0]) {
                    best = new int[] {worth(one | other), one, other};
                }
            }
        }
        return best[what];
    }

    boolean[] shared(List<boolean[]> cans) {
        boolean[] all = new boolean[256];
        all[0] = true;
        for (boolean[] can : cans) {
            boolean[] next = new boolean[256];
            for (int a = 0; a < 256; a++) {
                for (int b = 0; b < 256 && all[a]; b++) {
                    if ((a & b) == 0 && can[b]) {
                        next[a | b] = true;
                    }
                }
            }
            all = next;
        }
        return all;
    }

    int hands(int b, int what) {
        if (!bound(b) || what < 0 || what > 1) {
            return -1;
        }
        List<boolean[]> cans = new ArrayList<>();
        for (int w = 0; w < text.workers.size(); w++) {
            cans.add(can(rakings(state, w, b)));
        }
        boolean[] all = shared(cans);
        int best = 0;
        for (int bits = 0; bits < 256; bits++) {
            if (all[bits] && worth(bits) > worth(best)) {
                best = bits;
            }
        }
        return what == 0 ? worth(best) : best;
    }

    int spare(int w, int b) {
        if (!worker(w) || !bound(b)) {
            return -1;
        }
        int worth = plan(w, b, 0);
        for (int d = 599; d > 0; d--) {
            State later = new State(state);
            later.workers[w][2] += d;
            if (worth(best(rakings(later, w, b)).bits) == worth) {
                return d;
            }
        }
        return 0;
    }

    int quickest(int w, int what) {
        if (!worker(w) || what < 0 || what > 1) {
            return -1;
        }
        int best = -2;
        int soonest = 9999;
        for (int p = 0; p < text.parts.size(); p++) {
            int end = send(new State(state), w, p);
            if (end >= 0 && end < soonest) {
                best = p;
                soonest = end;
            }
        }
        return best == -2 ? -2 : what == 0 ? best : soonest;
    }

    int after(int w, int b, int m) {
        if (!worker(w) || !bound(b) || !minute(m)) {
            return -1;
        }
        State then = new State(state);
        for (int p : best(rakings(state, w, b)).parts) {
            send(then, w, p);
        }
        return worth(seen(then, m)) * sun(m);
    }

    int window(int p, int i, boolean last) {
        if (!part(p) || i < -1) {
            return -1;
        }
        List<int[]> runs = new ArrayList<>();
        for (int m = 0; m < 600; m++) {
            if (!holdsOf(high(p), m)) {
                continue;
            }
            if (m > 0 && holdsOf(high(p), m - 1)) {
                runs.get(runs.size() - 1)[1] = m;
            } else {
                runs.add(new int[] {m, m});
            }
        }
        return i == -1 ? runs.size() : i < runs.size() ? runs.get(i)[last ? 1 : 0] : -1;
    }

    int large(int b) {
        if (!bound(b)) {
            return -1;
        }
        for (int k = 16; k >= 1; k--) {
            if (fitsIn(k, b)) {
                return k;
            }
        }
        return 0;
    }

    private boolean fitsIn(int k, int b) {
        Model sized = new Model();
        sized.text = new Text();
        sized.text.laws = text.laws;
        sized.text.from = text.from;
        sized.text.to = text.to;
        sized.text.workers = text.workers;
        for (int[] p : text.parts) {
            int x = text.pegX + (int) (k * (p[0] - text.pegX) / 4.0);
            int y = text.pegY + (int) (k * (p[1] - text.pegY) / 4.0);
            sized.text.parts.add(new int[] {x, y, p[2], (int) Math.ceil(k * p[3] / 4.0)});
        }
        List<boolean[]> cans = new ArrayList<>();
        for (int w = 0; w < text.workers.size(); w++) {
            cans.add(sized.can(sized.rakings(new State(sized.text), w, b)));
        }
        return shared(cans)[(1 << text.parts.size()) - 1];
    }

    static int lot(int n, int seed, int which) {
        int h = seed;
        for (int it : new int[] {29, which}) {
            h = (h ^ it) * 1103515245 + 12345;
            h = h ^ (h >>> 15);
        }
        return (h >>> 1) % n;
    }

    int dogsPhoto(int m, int seed) {
        int bits = seen(state, m);
        for (int p = 0; p < text.parts.size(); p++) {
            if ((bits >> p & 1) == 0) {
                continue;
            }
            for (int u = Math.max(state.done[p], state.mended[p]); u <= m; u++) {
                if (lot(100, seed, 8 * u + p) < dogAt(p, u)) {
                    bits &= ~(1 << p);
                }
            }
        }
        return worth(bits) * sun(m);
    }

    int hopes(int m, int v, int n) {
        if (!minute(m) || v < 0 || n < 1 || n > 50) {
            return -1;
        }
        int many = 0;
        for (int i = 0; i < n; i++) {
            many += dogsPhoto(m, text.seed + i) >= v ? 1 : 0;
        }
        return many;
    }

    int hope(int m, int n) {
        if (!minute(m) || n < 1 || n > 50) {
            return -1;
        }
        int sum = 0;
        for (int i = 0; i < n; i++) {
            sum += dogsPhoto(m, text.seed + i);
        }
        return sum;
    }

    int[][] errors() {
        int n = text.parts.size();
        int[][] all = new int[n][];
        for (int round = 0; round < n; round++) {
            int chosen = -1;
            int[] least = null;
            for (int p = 0; p < n; p++) {
                if (all[p] != null) {
                    continue;
                }
                int[] own = {slip(far(p, text.pegX, text.pegY), 0), -2};
                for (int q = 0; q < n; q++) {
                    if (all[q] == null) {
                        continue;
                    }
                    int e = all[q][0] + slip(far(p, text.parts.get(q)[0], text.parts.get(q)[1]), all[q][0]);
                    if (e < own[0]) {
                        own = new int[] {e, q};
                    }
                }
                if (least == null || own[0] < least[0]) {
                    least = own;
                    chosen = p;
                }
            }
            all[chosen] = least;
        }
        return all;
    }

    private int far(int p, int x, int y) {
        return Math.abs(text.parts.get(p)[0] - x) + Math.abs(text.parts.get(p)[1] - y);
    }

    int fails(int limit) {
        if (limit < 0) {
            return -1;
        }
        int bits = 0;
        int[][] all = errors();
        for (int p = 0; p < all.length; p++) {
            bits |= all[p][0] > limit ? 1 << p : 0;
        }
        return bits;
    }

    // ---- what was told

    int tell(int p, int m, boolean there) {
        if (!part(p) || !minute(m) || told.size() == 20) {
            return -1;
        }
        told.add(new int[] {p, m, there ? 1 : 0});
        return told.size() - 1;
    }

    int late(int k, int i) {
        if (k < 0 || k > told.size() || i < -1) {
            return -1;
        }
        if (state.acts.size() > 30) {
            return -2;
        }
        List<Integer> ways = new ArrayList<>();
        for (int w = 0; w < text.workers.size(); w++) {
            for (int d = 0; d <= 60; d++) {
                if ((w == 0 || d > 0) && lateFits(w, d, k)) {
                    ways.add(100 * w + d);
                }
            }
        }
        return i == -1 ? ways.size() : i < ways.size() ? ways.get(i) : -1;
    }

    private boolean lateFits(int w, int d, int k) {
        State s = new State(text);
        s.workers[w][2] = d;
        for (int[] act : state.acts) {
            if (act[0] == 0) {
                send(s, act[1], act[2]);
            } else if (act[0] == 1) {
                cross(s, act[2]);
            } else {
                mend(s, act[1], act[2]);
            }
        }
        for (int[] one : told.subList(0, k)) {
            if (isSeen(s, one[0], one[1]) != (one[2] == 1)) {
                return false;
            }
        }
        return true;
    }

    boolean hold(int slot) {
        if (slot < 0 || slot > 2) {
            return false;
        }
        slots[slot] = new State(state);
        return true;
    }

    boolean restore(int slot) {
        if (slot < 0 || slot > 2 || slots[slot] == null) {
            return false;
        }
        state = new State(slots[slot]);
        past.clear();
        return true;
    }

    int count(int what) {
        int done = 0;
        int crossed = 0;
        int held = 0;
        for (int i = 0; i < 8; i++) {
            done += state.done[i] >= 0 ? 1 : 0;
            crossed += state.crossed[i] ? 1 : 0;
            held += i < 3 && slots[i] != null ? 1 : 0;
        }
        int[] all = {text.parts.size(), text.workers.size(), text.from, text.to, done, crossed, state.acts.size(),
            tape.length(), past.size(), told.size(), held};
        return what >= 0 && what < all.length ? all[what] : -1;
    }
}

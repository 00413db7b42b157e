import java.util.ArrayList;
import java.util.Arrays;
import java.util.List;

/**
 * Long runs of drawn calls, each answered by the class and by a slow model that follows the
 * document's words cell by cell. The draws come from a fixed seed, so every run is the same.
 */
public final class ModelTest {
    private static final int UNKNOWN = -1, OUTSIDE = -2, STATE = -3, FULL = -4, NONE = -9;
    private static final int RUNS = 400;
    private static final int CALLS = 256;

    private static long seed = 20261118L;
    private static int wrong = 0;
    /** How often a call was answered with no refusal: a call that is always refused tests little. */
    private static final int[] accepted = new int[31];

    private static int draw(int bound) {
        seed = seed * 6364136223846793005L + 1442695040888963407L;
        return (int) ((seed >>> 33) % bound);
    }

    /** A number from 0 to bound - 1; rarely one that is not. */
    private static int pick(int bound) {
        if (draw(40) != 0) {
            return draw(bound);
        }
        int[] off = {-1, bound, bound + 1, -bound, Integer.MAX_VALUE, Integer.MIN_VALUE};
        return off[draw(off.length)];
    }

    private static int pickAct() {
        if (draw(30) == 0) {
            return draw(60) - 5;
        }
        return draw(8) == 0 ? 40 : draw(4) * 10 + draw(4);
    }

    private static int pickSteps() {
        int[] usual = {186, 511, 16, 0, 32, 8, 2, 128, 24, 48, 18, 144, 495};
        return draw(2) == 0 ? usual[draw(usual.length)] : pick(512);
    }

    private static int pickSide() {
        return draw(40) == 0 ? draw(12) - 2 : 2 + draw(6);
    }

    public static void main(String[] args) {
        for (int run = 0; run < RUNS && wrong < 20; run++) {
            oneRun(run);
        }
        for (int call = 0; call < accepted.length; call++) {
            if (accepted[call] < 100) {
                wrong++;
                System.out.println("call " + call + " was accepted only " + accepted[call] + " times");
            }
        }
        System.out.println(wrong == 0 ? RUNS + " runs agree with the model" : wrong + " faults");
        if (wrong != 0) {
            System.exit(1);
        }
    }

    private static void oneRun(int run) {
        WornShapes x = new WornShapes();
        Model m = new Model();
        if (run % 3 == 0) {
            int[] small = {2, 2, 3, 2, 2, 3, 4, 3, 3, 4, 5, 2, 6, 2, 3, 3};
            int i = draw(small.length / 2) * 2;
            same(run, "field", x.field(small[i], small[i + 1]), m.field(small[i], small[i + 1]));
        }
        for (int call = 0; call < CALLS && wrong < 20; call++) {
            oneCall(run, x, m);
            for (int p = 0; p < 5; p++) {
                same(run, "number(" + p + ") after call " + call, x.number(p), m.number(p));
            }
        }
    }

    private static void same(int run, String call, long got, long want) {
        if (got != want) {
            wrong++;
            System.out.println("run " + run + ": " + call + " answered " + got + ", the model " + want);
        }
    }

    private static void note(int run, int which, String call, long got, long want) {
        same(run, call, got, want);
        if (want >= 0 || want == NONE) {
            accepted[which]++;
        }
    }

    private static void oneCall(int run, WornShapes x, Model m) {
        int kind = draw(100);
        if (kind < 45) {
            change(run, x, m);
        } else if (kind < 75) {
            ask(run, x, m);
        } else {
            program(run, x, m);
        }
    }

    private static void change(int run, WornShapes x, Model m) {
        int p = pick(5), c = pick(m.w * m.h), d = pick(m.w * m.h), q = pick(5), r = pick(5);
        boolean is = draw(3) != 0;
        switch (draw(16)) {
            case 0:
                if (draw(4) == 0 && run % 3 != 0) {
                    int w = pickSide(), h = pickSide();
                    note(run, 0, "field(" + w + ", " + h + ")", x.field(w, h), m.field(w, h));
                }
                scatter(run, x, m, draw(5));
                break;
            case 1: case 2:
                note(run, 1, "ink", x.ink(p, c, is), m.ink(p, c, is));
                break;
            case 3: case 4: case 5:
                note(run, 2, "box(" + p + ", " + c + ", " + d + ", " + is + ")", x.box(p, c, d, is), m.box(p, c, d, is));
                break;
            case 6:
                int s = pick(4), steps = pickSteps();
                note(run, 3, "stamp(" + s + ", " + steps + ")", x.stamp(s, steps), m.stamp(s, steps));
                break;
            case 7:
                int what = pick(2), v = what == 0 ? pick(2) : 4 + 4 * pick(2);
                note(run, 4, "rule(" + what + ", " + v + ")", x.rule(what, v), m.rule(what, v));
                break;
            case 8: case 9: case 10:
                int how = pick(4);
                note(run, 5, "mix(" + how + ", " + p + ", " + q + ", " + r + ")", x.mix(how, p, q, r), m.mix(how, p, q, r));
                break;
            case 11:
                note(run, 6, "keep(" + p + ", " + c + ")", x.keep(p, c), m.keep(p, c));
                break;
            case 12:
                note(run, 7, "fill(" + p + ")", x.fill(p), m.fill(p));
                break;
            case 13:
                note(run, 8, "thin(" + p + ")", x.thin(p), m.thin(p));
                break;
            case 14:
                int hit = pick(4), miss = pick(4);
                note(run, 9, "pair(" + hit + ", " + miss + ")", x.pair(hit, miss), m.pair(hit, miss));
                break;
            default:
                note(run, 10, "forget()", x.forget(), m.forget());
                break;
        }
    }

    /** Ink here and there, thick or thin, since boxes and single cells make plain pictures only. */
    private static void scatter(int run, WornShapes x, Model m, int picture) {
        int thick = 2 + draw(8);
        for (int cell = 0; cell < m.w * m.h; cell++) {
            boolean is = draw(10) < thick;
            same(run, "ink", x.ink(picture, cell, is), m.ink(picture, cell, is));
        }
    }

    private static void ask(int run, WornShapes x, Model m) {
        int p = pick(5), q = pick(5), c = pick(m.w * m.h), s = pick(4), three = pick(3), four = pick(4);
        String pc = "(" + p + ", " + c + ")";
        switch (draw(13)) {
            case 0:
                note(run, 11, "at" + pc, x.at(p, c), m.at(p, c));
                break;
            case 1:
                note(run, 12, "count(" + p + ", " + four + ")", x.count(p, four), m.count(p, four));
                break;
            case 2:
                note(run, 12, "count(" + p + ", 1)", x.count(p, 1), m.count(p, 1));
                break;
            case 3:
                note(run, 13, "piece" + pc, x.piece(p, c), m.piece(p, c));
                break;
            case 4:
                int pair = pick(4);
                note(run, 14, "hits(" + p + ", " + pair + ")", x.hits(p, pair), m.hits(p, pair));
                break;
            case 5:
                note(run, 15, "deep(" + p + ", " + c + ", " + s + ")", x.deep(p, c, s), m.deep(p, c, s));
                break;
            case 6:
                note(run, 16, "explains(" + p + ", " + q + ")", x.explains(p, q), m.explains(p, q));
                break;
            case 7:
                note(run, 17, "least(" + p + ", " + q + ")", x.least(p, q), m.least(p, q));
                break;
            case 8:
                note(run, 18, "boxes(" + p + ", true)", x.boxes(p, true), m.boxes(p, true));
                break;
            case 9:
                note(run, 19, "boxes(" + p + ", false)", x.boxes(p, false), m.boxes(p, false));
                break;
            case 10:
                note(run, 20, "greatest(" + p + ", " + three + ")", x.greatest(p, three), m.greatest(p, three));
                break;
            case 11:
                note(run, 21, "covered(" + p + ")", x.covered(p), m.covered(p));
                break;
            default:
                note(run, 22, "alone" + pc, x.alone(p, c), m.alone(p, c));
                break;
        }
    }

    private static void program(int run, WornShapes x, Model m) {
        int p = pick(5), q = pick(5), a = pick(3), b = pick(3), act = pickAct();
        switch (draw(12)) {
            case 0: case 1: case 2:
                note(run, 23, "act(" + p + ", " + act + ")", x.act(p, act), m.act(p, act));
                break;
            case 3: case 4:
                note(run, 25, "would(" + p + ", " + act + ")", x.would(p, act), m.would(p, act));
                break;
            case 5: case 6:
                note(run, 26, "add(" + a + ", " + act + ")", x.add(a, act), m.add(a, act));
                break;
            case 7:
                note(run, 27, "clear(" + a + ")", x.clear(a), m.clear(a));
                break;
            case 8:
                note(run, 28, "run(" + a + ", " + p + ")", x.run(a, p), m.run(a, p));
                break;
            case 9:
                note(run, 24, "differ(" + a + ", " + b + ")", x.differ(a, b), m.differ(a, b));
                break;
            default:
                way(run, x, m, p, q);
                break;
        }
    }

    /** Mostly towards a picture that some acts make of the other one, so that there is a way. */
    private static void way(int run, WornShapes x, Model m, int p, int q) {
        if (draw(2) == 0) {
            same(run, "mix", x.mix(3, p, 0, q), m.mix(3, p, 0, q));
            for (int i = draw(4); i > 0; i--) {
                int act = draw(4) == 0 ? 40 : draw(2) * 10 + draw(4);
                same(run, "act", x.act(q, act), m.act(q, act));
            }
        }
        note(run, 29, "shortest(" + p + ", " + q + ")", x.shortest(p, q), m.shortest(p, q));
        for (int i = -1; i < 5; i++) {
            note(run, 30, "step(" + p + ", " + q + ", " + i + ")", x.step(p, q, i), m.lastStep(p, q, i));
        }
    }

    /** The document, word by word. */
    private static final class Model {
        int w = 6, h = 6;
        boolean[][] pictures = new boolean[5][36];
        boolean[][] stamps = new boolean[4][9];
        int rim = 1, join = 4;
        List<List<Integer>> programs = new ArrayList<>();
        List<int[]> pairs = new ArrayList<>();
        /** What the last call of shortest found; null, if there is no way. */
        List<Integer> way = null;

        Model() {
            for (boolean[] stamp : stamps) {
                stamp[4] = true;
            }
            for (int i = 0; i < 3; i++) {
                programs.add(new ArrayList<>());
            }
        }

        static boolean in(int v, int bound) {
            return v >= 0 && v < bound;
        }

        boolean pic(int p) {
            return in(p, 5);
        }

        boolean cell(int c) {
            return in(c, w * h);
        }

        static int size(boolean[] set) {
            int n = 0;
            for (boolean b : set) {
                n += b ? 1 : 0;
            }
            return n;
        }

        /** The cell that a step leads to, or -1 beyond the field. */
        int led(int c, int step) {
            int x = c % w + step % 3 - 1, y = c / w + step / 3 - 1;
            return x < 0 || y < 0 || x >= w || y >= h ? -1 : y * w + x;
        }

        static boolean[] stepsOf(int number) {
            boolean[] steps = new boolean[9];
            for (int s = 0; s < 9; s++) {
                steps[s] = number / (1 << s) % 2 == 1;
            }
            return steps;
        }

        static int numberOf(boolean[] steps) {
            int n = 0;
            for (int s = 0; s < 9; s++) {
                n += steps[s] ? 1 << s : 0;
            }
            return n;
        }

        boolean[] grown(boolean[] set, boolean[] stamp) {
            boolean[] out = new boolean[w * h];
            for (int c = 0; c < w * h; c++) {
                for (int s = 0; s < 9; s++) {
                    if (set[c] && stamp[s] && led(c, s) >= 0) {
                        out[led(c, s)] = true;
                    }
                }
            }
            return out;
        }

        boolean[] worn(boolean[] set, boolean[] stamp) {
            boolean[] out = new boolean[w * h];
            for (int c = 0; c < w * h; c++) {
                boolean each = true;
                for (int s = 0; s < 9; s++) {
                    if (stamp[s]) {
                        int to = led(c, s);
                        each &= to < 0 ? rim == 1 : set[to];
                    }
                }
                out[c] = each;
            }
            return out;
        }

        boolean[] done(boolean[] set, int act) {
            boolean[] stamp = stamps[act % 10];
            switch (act / 10) {
                case 0: return grown(set, stamp);
                case 1: return worn(set, stamp);
                case 2: return grown(worn(set, stamp), stamp);
                case 3: return worn(grown(set, stamp), stamp);
                default: return not(set);
            }
        }

        boolean[] not(boolean[] set) {
            boolean[] out = new boolean[w * h];
            for (int c = 0; c < w * h; c++) {
                out[c] = !set[c];
            }
            return out;
        }

        static boolean isAct(int act) {
            for (int kind = 0; kind < 4; kind++) {
                for (int s = 0; s < 4; s++) {
                    if (act == 10 * kind + s) {
                        return true;
                    }
                }
            }
            return act == 40;
        }

        int field(int w, int h) {
            if (w < 2 || w > 7 || h < 2 || h > 7) {
                return OUTSIDE;
            }
            this.w = w;
            this.h = h;
            pictures = new boolean[5][w * h];
            return w * h;
        }

        int ink(int p, int c, boolean is) {
            if (!pic(p) || !cell(c)) {
                return UNKNOWN;
            }
            int before = pictures[p][c] ? 1 : 0;
            pictures[p][c] = is;
            return before;
        }

        int box(int p, int c, int d, boolean is) {
            if (!pic(p) || !cell(c) || !cell(d)) {
                return UNKNOWN;
            }
            if (d % w < c % w || d / w < c / w) {
                return OUTSIDE;
            }
            for (int y = c / w; y <= d / w; y++) {
                for (int x = c % w; x <= d % w; x++) {
                    pictures[p][y * w + x] = is;
                }
            }
            return size(pictures[p]);
        }

        int at(int p, int c) {
            return !pic(p) || !cell(c) ? UNKNOWN : pictures[p][c] ? 1 : 0;
        }

        long number(int p) {
            long n = 0;
            for (int c = w * h - 1; c >= 0; c--) {
                n = n * 2 + (pictures[p][c] ? 1 : 0);
            }
            return n;
        }

        int stamp(int s, int steps) {
            if (!in(s, 4)) {
                return UNKNOWN;
            }
            if (!in(steps, 512)) {
                return OUTSIDE;
            }
            int before = numberOf(stamps[s]);
            stamps[s] = stepsOf(steps);
            return before;
        }

        int rule(int what, int v) {
            int before;
            if (what == 0 && in(v, 2)) {
                before = rim;
                rim = v;
            } else if (what == 1 && (v == 4 || v == 8)) {
                before = join;
                join = v;
            } else {
                before = OUTSIDE;
            }
            return before;
        }

        int mix(int what, int a, int b, int to) {
            if (!in(what, 4)) {
                return OUTSIDE;
            }
            if (!pic(a) || !pic(to) || what != 3 && !pic(b)) {
                return UNKNOWN;
            }
            boolean[] out = new boolean[w * h];
            for (int c = 0; c < w * h; c++) {
                boolean one = pictures[a][c];
                out[c] = what == 0 ? one && pictures[b][c] : what == 1 ? one || pictures[b][c]
                        : what == 2 ? one && !pictures[b][c] : one;
            }
            pictures[to] = out;
            return size(out);
        }

        int act(int p, int act) {
            if (!pic(p)) {
                return UNKNOWN;
            }
            if (!isAct(act)) {
                return OUTSIDE;
            }
            pictures[p] = done(pictures[p], act);
            return size(pictures[p]);
        }

        int would(int p, int act) {
            if (!pic(p)) {
                return UNKNOWN;
            }
            if (!isAct(act)) {
                return OUTSIDE;
            }
            boolean[] then = done(pictures[p], act);
            int n = 0;
            for (int c = 0; c < w * h; c++) {
                n += then[c] != pictures[p][c] ? 1 : 0;
            }
            return n;
        }

        int add(int program, int act) {
            if (!in(program, 3)) {
                return UNKNOWN;
            }
            if (!isAct(act)) {
                return OUTSIDE;
            }
            if (programs.get(program).size() == 8) {
                return FULL;
            }
            programs.get(program).add(act);
            return programs.get(program).size();
        }

        int clear(int program) {
            if (!in(program, 3)) {
                return UNKNOWN;
            }
            int had = programs.get(program).size();
            programs.get(program).clear();
            return had;
        }

        boolean[] ran(int program, boolean[] set) {
            boolean[] now = set;
            for (int act : programs.get(program)) {
                now = done(now, act);
            }
            return now;
        }

        int run(int program, int p) {
            if (!in(program, 3) || !pic(p)) {
                return UNKNOWN;
            }
            pictures[p] = ran(program, pictures[p]).clone();
            return size(pictures[p]);
        }

        /** All rows of acts by length, of each length by numbers, till one of them fits. */
        int shortest(int from, int to) {
            way = null;
            if (!pic(from) || !pic(to)) {
                return UNKNOWN;
            }
            List<List<Integer>> rows = new ArrayList<>();
            List<boolean[]> made = new ArrayList<>();
            rows.add(new ArrayList<>());
            made.add(pictures[from]);
            for (int length = 0; length <= 4; length++) {
                for (int i = 0; i < rows.size(); i++) {
                    if (Arrays.equals(made.get(i), pictures[to])) {
                        way = rows.get(i);
                        return length;
                    }
                }
                if (length == 4) {
                    break;
                }
                List<List<Integer>> longer = new ArrayList<>();
                List<boolean[]> then = new ArrayList<>();
                for (int i = 0; i < rows.size(); i++) {
                    for (int act : new int[] {0, 1, 2, 3, 10, 11, 12, 13, 40}) {
                        List<Integer> row = new ArrayList<>(rows.get(i));
                        row.add(act);
                        longer.add(row);
                        then.add(done(made.get(i), act));
                    }
                }
                rows = longer;
                made = then;
            }
            return NONE;
        }

        /** Of the way that shortest just found, so that the model need not search again. */
        int lastStep(int from, int to, int i) {
            if (!pic(from) || !pic(to)) {
                return UNKNOWN;
            }
            return way != null && in(i, way.size()) ? way.get(i) : NONE;
        }

        int differ(int a, int b) {
            if (!in(a, 3) || !in(b, 3)) {
                return UNKNOWN;
            }
            if (w * h > 12) {
                return STATE;
            }
            for (int n = 0; n < 1 << w * h; n++) {
                boolean[] set = new boolean[w * h];
                for (int c = 0; c < w * h; c++) {
                    set[c] = (n >> c) % 2 == 1;
                }
                if (!Arrays.equals(ran(a, set), ran(b, set))) {
                    return n;
                }
            }
            return NONE;
        }

        boolean hang(int c, int d, int by) {
            int dx = Math.abs(c % w - d % w), dy = Math.abs(c / w - d / w);
            return by == 4 ? dx + dy == 1 : Math.max(dx, dy) == 1;
        }

        /** A label for each cell of the set, the least cell of its piece; -1 for the others. */
        int[] labels(boolean[] set, int by) {
            int[] label = new int[w * h];
            for (int c = 0; c < w * h; c++) {
                label[c] = set[c] ? c : -1;
            }
            boolean changed = true;
            while (changed) {
                changed = false;
                for (int c = 0; c < w * h; c++) {
                    for (int d = 0; d < w * h; d++) {
                        if (set[c] && set[d] && hang(c, d, by) && label[d] < label[c]) {
                            label[c] = label[d];
                            changed = true;
                        }
                    }
                }
            }
            return label;
        }

        /** The labels of the pieces without a cell at the edge, of the cells not in the set. */
        int[] holes(boolean[] set) {
            int[] label = labels(not(set), join == 4 ? 8 : 4);
            boolean[] atEdge = new boolean[w * h];
            for (int c = 0; c < w * h; c++) {
                int x = c % w, y = c / w;
                if (label[c] >= 0 && (x == 0 || y == 0 || x == w - 1 || y == h - 1)) {
                    atEdge[label[c]] = true;
                }
            }
            for (int c = 0; c < w * h; c++) {
                if (label[c] >= 0 && atEdge[label[c]]) {
                    label[c] = -1;
                }
            }
            return label;
        }

        int count(int p, int what) {
            if (!pic(p)) {
                return UNKNOWN;
            }
            if (!in(what, 4)) {
                return OUTSIDE;
            }
            if (what == 3) {
                return size(pictures[p]);
            }
            int n = 0;
            int[] label = what == 0 ? labels(pictures[p], join) : holes(pictures[p]);
            for (int c = 0; c < w * h; c++) {
                if (what < 2) {
                    n += label[c] == c ? 1 : 0;
                } else if (pictures[p][c]) {
                    n += 4;
                    for (int d = 0; d < w * h; d++) {
                        n -= pictures[p][d] && hang(c, d, 4) ? 1 : 0;
                    }
                }
            }
            return n;
        }

        boolean[] pieceOf(int p, int cell) {
            int[] label = labels(pictures[p], join);
            boolean[] out = new boolean[w * h];
            for (int c = 0; c < w * h; c++) {
                out[c] = label[c] == label[cell];
            }
            return out;
        }

        int refusal(int p, int c) {
            return !pic(p) || !cell(c) ? UNKNOWN : pictures[p][c] ? 0 : STATE;
        }

        int piece(int p, int c) {
            return refusal(p, c) != 0 ? refusal(p, c) : size(pieceOf(p, c));
        }

        int keep(int p, int c) {
            if (refusal(p, c) != 0) {
                return refusal(p, c);
            }
            pictures[p] = pieceOf(p, c);
            return size(pictures[p]);
        }

        int fill(int p) {
            if (!pic(p)) {
                return UNKNOWN;
            }
            int[] label = holes(pictures[p]);
            int n = 0;
            for (int c = 0; c < w * h; c++) {
                if (label[c] >= 0) {
                    pictures[p][c] = true;
                    n++;
                }
            }
            return n;
        }

        int pair(int hit, int miss) {
            if (!in(hit, 4) || !in(miss, 4)) {
                return UNKNOWN;
            }
            if (pairs.size() == 8) {
                return FULL;
            }
            pairs.add(new int[] {hit, miss});
            return pairs.size() - 1;
        }

        int forget() {
            if (pairs.isEmpty()) {
                return STATE;
            }
            pairs.remove(pairs.size() - 1);
            return pairs.size();
        }

        boolean[] hit(boolean[] set, int[] pair) {
            boolean[] out = new boolean[w * h];
            for (int c = 0; c < w * h; c++) {
                out[c] = set[c];
                for (int s = 0; s < 9; s++) {
                    boolean there = led(c, s) >= 0 && set[led(c, s)];
                    if (stamps[pair[0]][s] && !there || stamps[pair[1]][s] && there) {
                        out[c] = false;
                    }
                }
            }
            return out;
        }

        int hits(int p, int pair) {
            return !pic(p) || !in(pair, pairs.size()) ? UNKNOWN : size(hit(pictures[p], pairs.get(pair)));
        }

        int thin(int p) {
            if (!pic(p)) {
                return UNKNOWN;
            }
            int rounds = 0;
            while (true) {
                int before = size(pictures[p]);
                for (int[] pair : pairs) {
                    boolean[] gone = hit(pictures[p], pair);
                    for (int c = 0; c < w * h; c++) {
                        pictures[p][c] &= !gone[c];
                    }
                }
                if (size(pictures[p]) == before) {
                    return rounds;
                }
                rounds++;
            }
        }

        int deep(int p, int c, int s) {
            if (!pic(p) || !cell(c) || !in(s, 4)) {
                return UNKNOWN;
            }
            if (!pictures[p][c]) {
                return STATE;
            }
            boolean[] set = pictures[p];
            int times = 0;
            while (set[c]) {
                if (times == 60) {
                    return NONE;
                }
                set = worn(set, stamps[s]);
                times++;
            }
            return times;
        }

        List<Integer> explaining(int from, int to) {
            List<Integer> found = new ArrayList<>();
            for (int n = 0; n < 512; n++) {
                if (Arrays.equals(grown(pictures[from], stepsOf(n)), pictures[to])) {
                    found.add(n);
                }
            }
            return found;
        }

        int explains(int from, int to) {
            return !pic(from) || !pic(to) ? UNKNOWN : explaining(from, to).size();
        }

        int least(int from, int to) {
            if (!pic(from) || !pic(to)) {
                return UNKNOWN;
            }
            List<Integer> found = explaining(from, to);
            found.sort((a, b) -> size(stepsOf(a)) != size(stepsOf(b)) ? size(stepsOf(a)) - size(stepsOf(b)) : a - b);
            return found.isEmpty() ? NONE : found.get(0);
        }

        /** All boxes as x, y of the first and x, y of the last cell. */
        List<int[]> allBoxes(int p) {
            List<int[]> found = new ArrayList<>();
            for (int y = 0; y < h; y++) {
                for (int x = 0; x < w; x++) {
                    for (int v = y; v < h; v++) {
                        for (int u = x; u < w; u++) {
                            int[] box = {x, y, u, v};
                            if (within(p, box)) {
                                found.add(box);
                            }
                        }
                    }
                }
            }
            return found;
        }

        boolean within(int p, int[] box) {
            for (int y = box[1]; y <= box[3]; y++) {
                for (int x = box[0]; x <= box[2]; x++) {
                    if (!pictures[p][y * w + x]) {
                        return false;
                    }
                }
            }
            return true;
        }

        static boolean contains(int[] a, int[] b) {
            return a[0] <= b[0] && a[1] <= b[1] && a[2] >= b[2] && a[3] >= b[3];
        }

        List<int[]> uncontained(int p) {
            List<int[]> all = allBoxes(p), found = new ArrayList<>();
            for (int[] b : all) {
                boolean free = true;
                for (int[] a : all) {
                    free &= a == b || !contains(a, b);
                }
                if (free) {
                    found.add(b);
                }
            }
            return found;
        }

        int boxes(int p, boolean all) {
            return !pic(p) ? UNKNOWN : all ? allBoxes(p).size() : uncontained(p).size();
        }

        static int area(int[] box) {
            return (box[2] - box[0] + 1) * (box[3] - box[1] + 1);
        }

        int greatest(int p, int what) {
            if (!pic(p)) {
                return UNKNOWN;
            }
            if (!in(what, 3)) {
                return OUTSIDE;
            }
            List<int[]> all = allBoxes(p);
            if (all.isEmpty()) {
                return NONE;
            }
            all.sort((a, b) -> area(a) != area(b) ? area(b) - area(a)
                    : a[1] * w + a[0] != b[1] * w + b[0] ? a[1] * w + a[0] - b[1] * w - b[0]
                    : a[3] * w + a[2] - b[3] * w - b[2]);
            int[] best = all.get(0);
            return what == 0 ? best[1] * w + best[0] : what == 1 ? best[3] * w + best[2] : area(best);
        }

        /** By all boxes: the fewest for each set of the picture's cells. */
        int covered(int p) {
            if (!pic(p)) {
                return UNKNOWN;
            }
            int n = size(pictures[p]);
            if (n > 20) {
                return STATE;
            }
            int[] index = new int[w * h];
            int next = 0;
            for (int c = 0; c < w * h; c++) {
                index[c] = pictures[p][c] ? next++ : -1;
            }
            List<Integer> masks = new ArrayList<>();
            for (int[] box : allBoxes(p)) {
                int mask = 0;
                for (int y = box[1]; y <= box[3]; y++) {
                    for (int x = box[0]; x <= box[2]; x++) {
                        mask |= 1 << index[y * w + x];
                    }
                }
                masks.add(mask);
            }
            return fewest(masks, n);
        }

        static int fewest(List<Integer> masks, int n) {
            byte[] most = new byte[1 << n];
            Arrays.fill(most, (byte) 100);
            most[0] = 0;
            for (int set = 0; set < 1 << n; set++) {
                int open = Integer.lowestOneBit(~set);
                for (int mask : masks) {
                    if ((mask & open) != 0 && most[set] + 1 < most[set | mask]) {
                        most[set | mask] = (byte) (most[set] + 1);
                    }
                }
            }
            return most[(1 << n) - 1];
        }

        int alone(int p, int c) {
            if (refusal(p, c) != 0) {
                return refusal(p, c);
            }
            int n = 0;
            for (int[] box : uncontained(p)) {
                n += contains(box, new int[] {c % w, c / w, c % w, c / w}) ? 1 : 0;
            }
            return n == 1 ? 1 : 0;
        }
    }
}

/**
 * Each call with each mixture of good and bad arguments: of several refusals the first that the call
 * names is due, and what is refused changes nothing. Asking changes nothing either.
 */
public final class RefusalsTest extends Checks {
    private static final int MIN = Integer.MIN_VALUE, MAX = Integer.MAX_VALUE;

    private interface Call {
        long on(WornShapes x, int[] a);
    }

    /** What a call takes, a letter each, and which refusal is due when all of them are good. */
    private static final class Row {
        final String name;
        final String takes;
        final int late;
        final Call call;

        Row(String name, String takes, int late, Call call) {
            this.name = name;
            this.takes = takes;
            this.late = late;
            this.call = call;
        }
    }

    /** A row without a refusal that is due for good arguments. */
    private static final int TAKEN = 0;

    // p picture, c cell, d a cell before cell c in x, s stamp, g program, r pair, t steps, a act,
    // l length of a side, i any number; 4 and 3: what of as many, M: what of mix, refused first
    private static final Row[] ROWS = {
        new Row("field", "ll", TAKEN, (x, a) -> x.field(a[0], a[1])),
        new Row("ink", "pc", TAKEN, (x, a) -> x.ink(a[0], a[1], true)),
        new Row("ink off", "pc", TAKEN, (x, a) -> x.ink(a[0], a[1], false)),
        new Row("box", "pcd", OUTSIDE, (x, a) -> x.box(a[0], a[1], a[2], true)),
        new Row("box off", "pcd", OUTSIDE, (x, a) -> x.box(a[0], a[1], a[2], false)),
        new Row("at", "pc", TAKEN, (x, a) -> x.at(a[0], a[1])),
        new Row("number", "p", TAKEN, (x, a) -> x.number(a[0])),
        new Row("stamp", "st", TAKEN, (x, a) -> x.stamp(a[0], a[1])),
        new Row("mix", "Mppp", TAKEN, (x, a) -> x.mix(a[0], a[1], a[2], a[3])),
        new Row("act", "pa", TAKEN, (x, a) -> x.act(a[0], a[1])),
        new Row("would", "pa", TAKEN, (x, a) -> x.would(a[0], a[1])),
        new Row("add", "ga", FULL, (x, a) -> x.add(a[0], a[1])),
        new Row("clear", "g", TAKEN, (x, a) -> x.clear(a[0])),
        new Row("run", "gp", TAKEN, (x, a) -> x.run(a[0], a[1])),
        new Row("shortest", "pp", TAKEN, (x, a) -> x.shortest(a[0], a[1])),
        new Row("step", "ppi", TAKEN, (x, a) -> x.step(a[0], a[1], a[2])),
        new Row("differ", "gg", STATE, (x, a) -> x.differ(a[0], a[1])),
        new Row("count", "p4", TAKEN, (x, a) -> x.count(a[0], a[1])),
        new Row("piece", "pc", STATE, (x, a) -> x.piece(a[0], a[1])),
        new Row("keep", "pc", STATE, (x, a) -> x.keep(a[0], a[1])),
        new Row("fill", "p", TAKEN, (x, a) -> x.fill(a[0])),
        new Row("pair", "ss", FULL, (x, a) -> x.pair(a[0], a[1])),
        new Row("hits", "pr", TAKEN, (x, a) -> x.hits(a[0], a[1])),
        new Row("thin", "p", TAKEN, (x, a) -> x.thin(a[0])),
        new Row("deep", "pcs", STATE, (x, a) -> x.deep(a[0], a[1], a[2])),
        new Row("explains", "pp", TAKEN, (x, a) -> x.explains(a[0], a[1])),
        new Row("least", "pp", TAKEN, (x, a) -> x.least(a[0], a[1])),
        new Row("boxes all", "p", TAKEN, (x, a) -> x.boxes(a[0], true)),
        new Row("boxes", "p", TAKEN, (x, a) -> x.boxes(a[0], false)),
        new Row("greatest", "p3", TAKEN, (x, a) -> x.greatest(a[0], a[1])),
        new Row("covered", "p", STATE, (x, a) -> x.covered(a[0])),
        new Row("alone", "pc", STATE, (x, a) -> x.alone(a[0], a[1])),
    };

    /** The good argument comes first; the bad ones are near, far, or good again if cut to fewer bits. */
    private static int[] choices(char kind) {
        switch (kind) {
            case 'p': return new int[] {0, -1, 5, 64, 1 << 16, MIN, MAX};
            case 'c': return new int[] {3, -1, 49, 64 + 3, 256 + 3, MIN + 3, MAX};
            case 'd': return new int[] {9, -1, 49, 64 + 9, MIN + 9, MAX};
            case 's': return new int[] {2, -1, 4, 256 + 2, MIN, MAX};
            case 'g': return new int[] {1, -1, 3, 256 + 1, MIN, MAX};
            case 'r': return new int[] {7, -1, 8, 256 + 7, MIN, MAX};
            case 't': return new int[] {5, -1, 512, 1 << 16, MIN, MAX};
            case 'a': return new int[] {12, -1, -12, 4, 14, 24, 34, 39, 41, 43, 50, 256 + 12, MIN, MAX};
            case 'l': return new int[] {5, 1, 8, 0, -5, 256 + 5, MIN, MAX};
            case 'i': return new int[] {0};
            case '3': return new int[] {2, -1, 3, 256, MIN, MAX};
            case '4': return new int[] {3, -1, 4, 256, MIN, MAX};
            default: return new int[] {1, -1, 4, 256, MIN, MAX};
        }
    }

    private static int refusal(char kind) {
        return "talM34".indexOf(kind) >= 0 ? OUTSIDE : UNKNOWN;
    }

    /** Full programs and pairs, more cells than may be asked, and cell 3 in no picture. */
    private static WornShapes jammed() {
        WornShapes x = laid(7, 7);
        x.box(0, 0, 34, true);
        x.box(0, 3, 45, false);
        x.box(1, 8, 40, true);
        x.box(1, 24, 25, false);
        x.ink(2, 48, true);
        x.box(3, 0, 21, true);
        x.box(4, 4, 20, true);
        x.stamp(0, CROSS);
        x.stamp(1, LEFT);
        x.stamp(2, RIGHT | DOWN);
        x.stamp(3, STAY | UP_LEFT);
        x.rule(0, 0);
        x.rule(1, 8);
        int[] acts = {1, 12, NOT, 23, 30, 2, 11, 3};
        for (int act : acts) {
            x.add(1, act);
        }
        x.add(2, GROW + 2);
        x.add(2, NOT);
        for (int i = 0; i < 8; i++) {
            x.pair(i % 4, (3 * i + 1) % 4);
        }
        return x;
    }

    /** All that can be asked of an object, put in a row; the object is of no use behind it. */
    private static String told(WornShapes x) {
        StringBuilder all = new StringBuilder();
        for (int p = 0; p < 5; p++) {
            all.append(x.number(p)).append(' ');
        }
        int cells = 0;
        while (cells < 50 && x.at(0, cells) != UNKNOWN) {
            cells++;
        }
        all.append("cells ").append(cells).append(" pairs");
        for (int pair = 0; pair < 9; pair++) {
            for (int p = 0; p < 5; p++) {
                all.append(' ').append(x.hits(p, pair));
            }
        }
        all.append(" programs");
        for (int program = 0; program < 3; program++) {
            for (int p = 0; p < 4; p++) {
                x.mix(3, p, 0, 4);
                x.run(program, 4);
                all.append(' ').append(x.number(4));
            }
            all.append(" of ").append(x.clear(program));
        }
        all.append(" thinned");
        for (int p = 0; p < 4; p++) {
            all.append(' ').append(x.thin(p)).append(' ').append(x.number(p));
        }
        all.append(" rules ").append(x.rule(0, 0)).append(' ').append(x.rule(1, 4)).append(" stamps");
        for (int s = 0; s < 4; s++) {
            all.append(' ').append(x.stamp(s, DOWN));
        }
        x.mix(2, 0, 0, 0);
        x.ink(0, 0, true);
        x.act(0, GROW);
        return all.append(" below ").append(x.number(0)).toString();
    }

    private static String shown(String name, int[] args) {
        StringBuilder out = new StringBuilder(name);
        for (int arg : args) {
            out.append(' ').append(arg);
        }
        return out.toString();
    }

    private static void refuse(Row row, String before) {
        int[] pick = new int[row.takes.length()];
        int mixtures = 1;
        for (int i = 0; i < pick.length; i++) {
            mixtures *= choices(row.takes.charAt(i)).length;
        }
        for (int number = 0; number < mixtures; number++) {
            int rest = number;
            int want = row.late;
            // from behind, so that of several bad ones the first has the word
            for (int i = pick.length - 1; i >= 0; i--) {
                int[] from = choices(row.takes.charAt(i));
                int which = rest % from.length;
                rest /= from.length;
                pick[i] = from[which];
                want = which == 0 ? want : refusal(row.takes.charAt(i));
            }
            if (want != TAKEN) {
                WornShapes x = jammed();
                due(shown(row.name, pick), row.call.on(x, pick), want);
                due(shown(row.name, pick), told(x), before);
            }
        }
    }

    private static void rules() {
        about("RIM (what = 0), JOIN (1): OUTSIDE, and nothing is changed");
        String before = told(jammed());
        int[] numbers = {-8, -4, -1, 0, 1, 2, 3, 4, 5, 6, 7, 8, 9, 12, 16, 256, 257, 260, 264, MIN, MAX};
        for (int what : numbers) {
            for (int v : numbers) {
                boolean taken = what == 0 && (v == 0 || v == 1) || what == 1 && (v == 4 || v == 8);
                WornShapes x = jammed();
                if (taken) {
                    due("rule " + what + " " + v, x.rule(what, v), what == 0 ? 0 : 8);
                } else {
                    due("rule " + what + " " + v, x.rule(what, v), OUTSIDE);
                    due("rule " + what + " " + v, told(x), before);
                }
            }
        }
    }

    private static void refusedFirst() {
        String before = told(jammed());
        about("REFUSALS, of several the first that a call names; what is refused changes nothing");
        for (Row row : ROWS) {
            refuse(row, before);
        }
        about("mix: 3 the first (b is not looked at)");
        for (int b : choices('p')) {
            due("b " + b, jammed().mix(3, 3, b, 2), jammed().count(3, 3));
            due("a and b " + b, jammed().mix(3, 5, b, 2), UNKNOWN);
            due("b and to " + b, jammed().mix(3, 3, b, 5), UNKNOWN);
        }
    }

    private static void bare() {
        about("a new object: what is refused changes nothing");
        String before = told(new WornShapes());
        WornShapes x = new WornShapes();
        due("forget", x.forget(), STATE);
        due("hits", x.hits(0, 0), UNKNOWN);
        due("differ", x.differ(0, 1), STATE);
        due("piece", x.piece(0, 35), STATE);
        due("keep", x.keep(0, 35), STATE);
        due("deep", x.deep(0, 35, 0), STATE);
        due("alone", x.alone(0, 35), STATE);
        due("cell 36", x.ink(0, 36, true), UNKNOWN);
        due("keep", x.keep(0, 36), UNKNOWN);
        due("box", x.box(0, 1, 0, true), OUTSIDE);
        due("box", x.box(0, 6, 5, true), OUTSIDE);
        due("field", x.field(6, 1), OUTSIDE);
        due("all of them", told(x), before);
    }

    private static void askAll(WornShapes x) {
        for (int p = 0; p < 5; p++) {
            x.number(p);
            x.at(p, 3);
            x.would(p, CLOSE + 2);
            x.would(p, NOT);
            x.shortest(p, 4 - p);
            x.step(p, 4 - p, 0);
            x.step(0, p, 3);
            for (int what = 0; what < 4; what++) {
                x.count(p, what);
                x.greatest(p, what);
                x.hits(p, what);
                x.deep(p, 8, what);
            }
            x.piece(p, 8);
            x.explains(p, 0);
            x.least(0, p);
            x.boxes(p, true);
            x.boxes(p, false);
            x.covered(p);
            x.alone(p, 8);
        }
        x.differ(0, 1);
        x.differ(2, 1);
    }

    private static void asked() {
        about("a call that asks changes nothing");
        WornShapes x = jammed();
        askAll(x);
        due("on 7 by 7", told(x), told(jammed()));
        x = jammed();
        x.field(4, 3);
        x.box(0, 0, 5, true);
        x.box(1, 6, 10, true);
        askAll(x);
        WornShapes y = jammed();
        y.field(4, 3);
        y.box(0, 0, 5, true);
        y.box(1, 6, 10, true);
        due("on 4 by 3", told(x), told(y));
    }

    public static void main(String[] args) {
        refusedFirst();
        rules();
        bare();
        asked();
        finish();
    }
}

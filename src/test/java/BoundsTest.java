/**
 * What stands under "Terms": each sentence that names a bound (too small, too large, empty, full, over
 * the end of a row) on all fields where it can be told, with what is due said by a plain formula.
 */
public final class BoundsTest extends Checks {
    private static final int MIN = Integer.MIN_VALUE, MAX = Integer.MAX_VALUE;

    /** A test that is done on each field from 2 by 2 to 7 by 7. */
    private interface OnField {
        void check(int w, int h);
    }

    private static void onAllFields(OnField test) {
        for (int w = 2; w <= 7; w++) {
            for (int h = 2; h <= 7; h++) {
                test.check(w, h);
            }
        }
    }

    private static long all(int w, int h) {
        return (1L << w * h) - 1L;
    }

    /** The cell that a step leads to, or -1 beyond the field. */
    private static int led(int w, int h, int cell, int step) {
        int x = cell % w + step % 3 - 1, y = cell / w + step / 3 - 1;
        return x < 0 || y < 0 || x >= w || y >= h ? -1 : y * w + x;
    }

    /** The cells from which a step leads beyond the field. */
    private static long leaving(int w, int h, int step) {
        long cells = 0L;
        for (int c = 0; c < w * h; c++) {
            cells |= led(w, h, c, step) < 0 ? 1L << c : 0L;
        }
        return cells;
    }

    private static boolean atEdge(int w, int h, int cell) {
        int x = cell % w, y = cell / w;
        return x == 0 || y == 0 || x == w - 1 || y == h - 1;
    }

    /** Every other cell, beginning with cell 0 or with cell 1. */
    private static long chequer(int w, int h, int first) {
        long cells = 0L;
        for (int c = 0; c < w * h; c++) {
            cells |= (c % w + c / w) % 2 == first ? 1L << c : 0L;
        }
        return cells;
    }

    private static WornShapes whole(int w, int h) {
        WornShapes x = laid(w, h);
        x.box(0, 0, w * h - 1, true);
        return x;
    }

    // ---- 1 the field

    private static void sides() {
        about("THE FIELD has W by H CELLS (2 to 7 each; 6 by 6 at first)");
        int[] lengths = {MIN, -6, -1, 0, 1, 2, 3, 4, 5, 6, 7, 8, 9, 256 + 6, 65536 + 2, MAX};
        for (int w : lengths) {
            for (int h : lengths) {
                WornShapes x = new WornShapes();
                boolean taken = w >= 2 && w <= 7 && h >= 2 && h <= 7;
                int cells = taken ? w * h : 36;
                due("field " + w + " " + h, x.field(w, h), taken ? cells : OUTSIDE);
                due("last cell of " + w + " " + h, x.at(0, cells - 1), 0);
                due("cell behind it of " + w + " " + h, x.at(0, cells), UNKNOWN);
            }
        }
        WornShapes x = new WornShapes();
        x.stamp(0, DOWN);
        x.ink(0, 0, true);
        x.act(0, GROW);
        due("6 wide", x.number(0), 1L << 6);
        for (int i = 0; i < 4; i++) {
            x.act(0, GROW);
        }
        due("6 high", x.number(0), 1L << 30);
        due("beyond", x.act(0, GROW), 0);
    }

    private static void cellNumbers(int w, int h) {
        about("CELL y W + x");
        WornShapes x = laid(w, h);
        int last = w * h - 1;
        for (int c = 0; c <= last; c++) {
            int toX = c % w, toY = c / w;
            due("from the first to " + c, x.box(0, 0, c, true), (toX + 1) * (toY + 1));
            x.mix(2, 0, 0, 0);
            due("to the last from " + c, x.box(0, c, last, true), (w - toX) * (h - toY));
            x.mix(2, 0, 0, 0);
        }
    }

    private static void lastCell(int w, int h) {
        about("UNKNOWN (there is no such CELL)");
        WornShapes x = whole(w, h);
        int cells = w * h;
        for (int c : new int[] {0, cells - 1}) {
            due("at " + c, x.at(0, c), 1);
            due("ink " + c, x.ink(0, c, true), 1);
            due("piece " + c, x.piece(0, c), cells);
            due("keep " + c, x.keep(0, c), cells);
            due("deep " + c, x.deep(0, c, 0), NONE);
            due("alone " + c, x.alone(0, c), 1);
            due("box " + c, x.box(0, c, c, true), cells);
        }
        for (int c : new int[] {-1, cells, cells + w, 49, 63, 64, 64 + cells - 1, 128, MIN, MAX}) {
            if (c < 0 || c >= cells) {
                due("at " + c, x.at(0, c), UNKNOWN);
                due("ink " + c, x.ink(0, c, false), UNKNOWN);
                due("piece " + c, x.piece(0, c), UNKNOWN);
                due("keep " + c, x.keep(0, c), UNKNOWN);
                due("deep " + c, x.deep(0, c, 0), UNKNOWN);
                due("alone " + c, x.alone(0, c), UNKNOWN);
                due("box from " + c, x.box(0, c, 0, false), UNKNOWN);
                due("box to " + c, x.box(0, 0, c, false), UNKNOWN);
            }
        }
        due("nothing is changed", x.number(0), all(w, h));
    }

    private static void otherField(int w, int h) {
        about("Another FIELD, no ink (STAMPS, PROGRAMS, PAIRS stay)");
        WornShapes x = laid(7, 7);
        for (int p = 0; p < 5; p++) {
            x.box(p, 0, 48, true);
        }
        x.stamp(1, LEFT);
        x.add(2, NOT);
        x.pair(0, 1);
        due("cells", x.field(w, h), w * h);
        for (int p = 0; p < 5; p++) {
            due("no ink in " + p, x.number(p), 0);
        }
        due("the program stays", x.run(2, 0), w * h);
        due("all and no more", x.number(0), all(w, h));
        due("the pair stays", x.hits(0, 0), h);
        due("the stamp stays", x.act(0, GROW + 1), (w - 1) * h);
        due("the same field again", x.field(w, h), w * h);
        due("no ink again", x.number(0), 0);
        x.field(7, 7);
        due("nothing comes back", x.number(0), 0);
    }

    private static void boxCorners(int w, int h) {
        about("box: OUTSIDE: the other one lies before in x or y");
        WornShapes x = new WornShapes();
        for (int c = 0; c < w * h; c++) {
            x = laid(w, h);
            for (int other = 0; other < w * h; other++) {
                int wide = other % w - c % w + 1, high = other / w - c / w + 1;
                boolean before = wide < 1 || high < 1;
                due("from " + c + " to " + other, x.box(4, c, other, true), before ? OUTSIDE : wide * high);
                due("ink", x.count(4, 3), before ? 0 : wide * high);
                x.box(4, 0, w * h - 1, false);
            }
        }
    }

    private static void pictures() {
        about("PICTURES 0 to 4 are sets of CELLS (none at first)");
        WornShapes x = new WornShapes();
        for (int p = 0; p < 5; p++) {
            due("none in " + p, x.number(p), 0);
            due("no cell in " + p, x.count(p, 3), 0);
        }
        for (int p = 0; p < 5; p++) {
            due("ink", x.ink(p, 7 * p, true), 0);
        }
        for (int p = 0; p < 5; p++) {
            due("its own alone", x.number(p), 1L << 7 * p);
        }
        for (int p : new int[] {-1, 5, 6, 256, 261, MIN, MIN + 4, MAX}) {
            due("number " + p, x.number(p), UNKNOWN);
        }
    }

    private static void stamps() {
        about("STAMPS 0 to 3 (at first STEP 4 alone); such a number of STEPS (0 to 511)");
        WornShapes x = new WornShapes();
        x.box(0, 2, 22, true);
        x.ink(0, 35, true);
        long before = x.number(0);
        for (int s = 0; s < 4; s++) {
            for (int kind = 0; kind < 4; kind++) {
                due("kind " + kind + " by stamp " + s, x.act(0, 10 * kind + s), 13);
                due("nothing moves", x.number(0), before);
            }
        }
        for (int s = 0; s < 4; s++) {
            due("at first", x.stamp(s, 511), 16);
            due("511", x.stamp(s, 0), 511);
            due("0", x.stamp(s, s), 0);
        }
        for (int s = 0; s < 4; s++) {
            for (int steps : new int[] {-1, -511, 512, 513, 1024, 65536, MIN, MAX}) {
                due("steps " + steps, x.stamp(s, steps), OUTSIDE);
            }
            due("as it was", x.stamp(s, s), s);
        }
        for (int s : new int[] {-1, 4, 5, 256, MIN, MAX}) {
            due("stamp " + s, x.stamp(s, 16), UNKNOWN);
        }
    }

    private static void steps(int w, int h) {
        about("STEP 3 (dy and 1) and (dx and 1); GROWN: all CELLS of THE FIELD that some STEP leads to");
        for (int step = 0; step < 9; step++) {
            WornShapes x = laid(w, h);
            x.stamp(3, 1 << step);
            for (int c = 0; c < w * h; c++) {
                int to = led(w, h, c, step);
                x.ink(0, c, true);
                due("step " + step + " from " + c, x.act(0, GROW + 3), to < 0 ? 0 : 1);
                due("step " + step + " from " + c, x.number(0), to < 0 ? 0L : 1L << to);
                x.mix(2, 0, 0, 0);
            }
            x.box(1, 0, w * h - 1, true);
            due("all by step " + step, x.act(1, GROW + 3), w * h - Long.bitCount(leaving(w, h, 8 - step)));
            due("all by step " + step, x.number(1), all(w, h) & ~leaving(w, h, 8 - step));
            due("none by step " + step, x.act(2, GROW + 3), 0);
        }
    }

    private static void rim(int w, int h) {
        about("RIM (0 or 1; 1 at first): whether what lies beyond THE FIELD counts as ink when WORN");
        for (int step = 0; step < 9; step++) {
            WornShapes x = whole(w, h);
            x.stamp(0, 1 << step);
            x.act(0, WEAR);
            due("at first, all by step " + step, x.number(0), all(w, h));
            x.act(1, WEAR);
            due("at first, none by step " + step, x.number(1), leaving(w, h, step));
            due("it was 1", x.rule(0, 0), 1);
            x.act(0, WEAR);
            due("without, all by step " + step, x.number(0), all(w, h) & ~leaving(w, h, step));
            due("without, none by step " + step, x.act(2, WEAR), 0);
        }
        WornShapes x = whole(w, h);
        x.stamp(2, SQUARE);
        due("all by all steps", x.act(0, WEAR + 2), w * h);
        due("none by all steps", x.act(1, WEAR + 2), 0);
        x.rule(0, 0);
        due("without, all by all steps", x.act(0, WEAR + 2), (w - 2) * (h - 2));
        due("without, none by all steps", x.act(1, WEAR + 2), 0);
        due("a step grows one cell to four at a corner", cornerGrown(w, h), 4);
    }

    private static int cornerGrown(int w, int h) {
        WornShapes x = laid(w, h);
        x.stamp(0, SQUARE);
        x.ink(0, w * h - 1, true);
        return x.act(0, GROW);
    }

    private static void noSteps(int w, int h) {
        about("a STAMP of no STEPS: GROWN is none, WORN is all");
        for (int rim = 0; rim < 2; rim++) {
            for (long picture : new long[] {0L, 1L, all(w, h)}) {
                WornShapes x = laid(w, h);
                x.rule(0, rim);
                x.stamp(1, 0);
                int[] want = {0, w * h, 0, w * h};
                for (int kind = 0; kind < 4; kind++) {
                    put(x, 0, picture);
                    due("kind " + kind + " of " + picture, x.act(0, 10 * kind + 1), want[kind]);
                    due("kind " + kind + " of " + picture, x.number(0), want[kind] == 0 ? 0L : all(w, h));
                }
            }
        }
    }

    private static void openedClosed() {
        about("OPENED: WORN, then GROWN. CLOSED: GROWN, then WORN");
        long[] some = {0L, 0x1FFL, 0x16DL, 0x0BAL, 0x155L, 0x010L, 0x1EFL, 0x0C6L};
        for (int steps = 0; steps < 512; steps++) {
            WornShapes x = laid(3, 3);
            x.stamp(0, steps);
            x.rule(0, steps / 3 % 2);
            put(x, 0, some[steps % 8]);
            x.mix(3, 0, 0, 1);
            x.act(1, OPEN);
            x.mix(3, 0, 0, 2);
            x.act(2, WEAR);
            x.act(2, GROW);
            due("opened by " + steps, x.number(1), x.number(2));
            x.mix(3, 0, 0, 1);
            x.act(1, CLOSE);
            x.mix(3, 0, 0, 2);
            x.act(2, GROW);
            x.act(2, WEAR);
            due("closed by " + steps, x.number(1), x.number(2));
        }
    }

    private static void not(int w, int h) {
        about("NOT: all CELLS that are not in it");
        WornShapes x = laid(w, h);
        due("would of none", x.would(0, NOT), w * h);
        due("of none", x.act(0, NOT), w * h);
        due("of none", x.number(0), all(w, h));
        due("would of all", x.would(0, NOT), w * h);
        due("of all", x.act(0, NOT), 0);
        x.ink(0, w * h - 1, true);
        due("of the last", x.act(0, NOT), w * h - 1);
        due("of the last", x.number(0), all(w, h) >>> 1);
    }

    // ---- 2 acts

    private static boolean isAct(int act) {
        boolean found = act == 40;
        for (int kind = 0; kind < 4; kind++) {
            for (int s = 0; s < 4; s++) {
                found |= act == 10 * kind + s;
            }
        }
        return found;
    }

    private static void actNumbers() {
        about("ACTS: 10 times a KIND and a STAMP (0 by NOT)");
        for (int act = -60; act <= 160; act++) {
            oneAct(act);
        }
        for (int act : new int[] {MIN, MIN + 8, MAX, MAX - 7, 256, 296, 65536, 1000, 4000, -256}) {
            oneAct(act);
        }
    }

    private static void oneAct(int act) {
        WornShapes x = new WornShapes();
        x.ink(0, 0, true);
        boolean is = isAct(act);
        due("would " + act, x.would(0, act), !is ? OUTSIDE : act == NOT ? 36 : 0);
        due("add " + act, x.add(0, act), is ? 1 : OUTSIDE);
        due("had " + act, x.clear(0), is ? 1 : 0);
        due("act " + act, x.act(0, act), !is ? OUTSIDE : act == NOT ? 35 : 1);
        due("left by " + act, x.count(0, 3), is && act == NOT ? 35 : 1);
    }

    private static void programs() {
        about("PROGRAMS 0 to 2 are rows of ACTS (8 at most; none at first), done one behind the other");
        WornShapes x = laid(7, 7);
        x.stamp(1, RIGHT);
        x.stamp(2, DOWN);
        x.ink(0, 0, true);
        for (int p = 0; p < 3; p++) {
            due("none at first", x.run(p, 0), 1);
            due("none at first", x.clear(p), 0);
            for (int i = 1; i <= 8; i++) {
                due("act " + i, x.add(p, i <= 3 ? GROW + 1 : GROW + 2), i);
            }
            due("one more", x.add(p, GROW), FULL);
            due("one more", x.add(p, NOT), FULL);
        }
        due("all eight", x.run(2, 0), 1);
        due("all eight", x.number(0), 1L << 5 * 7 + 3);
        due("had", x.clear(1), 8);
        due("room again", x.add(1, NOT), 1);
        due("the others are full", x.add(0, NOT), FULL);
        due("the others are full", x.add(2, NOT), FULL);
        x.ink(0, 0, true);
        due("what was cleared is not done", x.run(1, 0), 47);
        for (int p : new int[] {-1, 3, 4, 256, MIN, MAX}) {
            due("program " + p, x.add(p, NOT), UNKNOWN);
            due("program " + p, x.clear(p), UNKNOWN);
            due("program " + p, x.run(p, 0), UNKNOWN);
            due("program " + p, x.differ(p, 0), UNKNOWN);
            due("program " + p, x.differ(0, p), UNKNOWN);
        }
    }

    private static void shortestLengths() {
        about("THE SHORTEST: the fewest ACTS of KINDS 0, 1 and 4 (4 at most)");
        WornShapes x = laid(7, 3);
        x.stamp(3, RIGHT);
        x.ink(0, 7, true);
        for (int far = 0; far < 7; far++) {
            x.mix(2, 1, 1, 1);
            x.ink(1, 7 + far, true);
            due("so far " + far, x.shortest(0, 1), far <= 4 ? far : NONE);
            for (int i = -2; i < 7; i++) {
                due("step " + i + " of " + far, x.step(0, 1, i), i >= 0 && i < far && far <= 4 ? GROW + 3 : NONE);
            }
            for (int i : new int[] {MIN, MIN + 1, MAX, 256, 65536, -256}) {
                due("step " + i + " of " + far, x.step(0, 1, i), NONE);
            }
        }
        due("pictures stay", x.number(0), 1L << 7);
        due("of itself", x.shortest(1, 1), 0);
        due("no act of itself", x.step(1, 1, 0), NONE);
    }

    private static void shortestKinds() {
        about("THE SHORTEST has neither OPENED nor CLOSED");
        WornShapes x = drawn("#...", ".##.", ".##.", "....");
        x.stamp(2, STAY | RIGHT | DOWN | DOWN_RIGHT);
        x.mix(3, 0, 0, 1);
        due("opened", x.act(1, OPEN + 2), 4);
        due("two for opened", x.shortest(0, 1), 2);
        due("worn", x.step(0, 1, 0), WEAR + 2);
        due("then grown", x.step(0, 1, 1), GROW + 2);
        x = drawn("....", ".#.#", "....", "....");
        x.stamp(2, LEFT | STAY | RIGHT);
        x.rule(0, 0);
        x.mix(3, 0, 0, 1);
        due("closed", x.act(1, CLOSE + 2), 2);
        looks(x, 1, "....", ".##.", "....", "....");
        due("two for closed", x.shortest(0, 1), 2);
        due("grown", x.step(0, 1, 0), GROW + 2);
        due("then worn", x.step(0, 1, 1), WEAR + 2);
    }

    private static void shortestFirst() {
        about("of as many the first by numbers");
        WornShapes x = whole(3, 3);
        due("all to none", x.step(0, 1, 0), NOT);
        due("none to all", x.step(1, 0, 0), NOT);
        for (int s = 3; s >= 0; s--) {
            x.stamp(s, 0);
            due("none to all by no steps", x.shortest(1, 0), 1);
            due("none to all by no steps", x.step(1, 0, 0), WEAR + s);
            due("all to none by no steps", x.step(0, 1, 0), GROW + s);
        }
        x = drawn("...", "#..", "...");
        x.ink(1, 5, true);
        x.rule(0, 0);
        x.stamp(3, RIGHT);
        x.stamp(2, LEFT);
        due("right twice", x.shortest(0, 1), 2);
        due("3, 3 goes before 3, 12", x.step(0, 1, 0), GROW + 3);
        due("3, 3 goes before 3, 12", x.step(0, 1, 1), GROW + 3);
        x.stamp(1, RIGHT);
        due("1, 1 goes before 1, 3", x.step(0, 1, 0), GROW + 1);
        due("1, 1 goes before 1, 3", x.step(0, 1, 1), GROW + 1);
        x.stamp(0, LEFT);
        due("left twice", x.step(1, 0, 0), GROW);
        due("0, 0 goes before 0, 2", x.step(1, 0, 1), GROW);
        x.act(1, NOT);
        due("fewer go before lesser numbers", x.shortest(0, 1), 3);
        due("1, 1, 40", x.step(0, 1, 0), GROW + 1);
        due("1, 1, 40", x.step(0, 1, 1), GROW + 1);
        due("1, 1, 40", x.step(0, 1, 2), NOT);
    }

    private static void agree(int w, int h) {
        about("Two PROGRAMS AGREE (it is asked only where it has 12 CELLS at most)");
        WornShapes x = laid(w, h);
        boolean asked = w * h <= 12;
        x.stamp(0, SQUARE);
        x.stamp(1, 0);
        x.stamp(2, RIGHT);
        x.stamp(3, LEFT);
        due("both without acts", x.differ(0, 1), asked ? NONE : STATE);
        due("one with itself", x.differ(2, 2), asked ? NONE : STATE);
        for (int i = 0; i < 6; i++) {
            x.add(0, WEAR);
        }
        x.add(1, GROW + 1);
        due("only on all cells not", x.differ(0, 1), asked ? all(w, h) : STATE);
        due("the other way round", x.differ(1, 0), asked ? all(w, h) : STATE);
        x.clear(0);
        x.add(0, GROW + 2);
        x.add(0, GROW + 3);
        due("first at the end of a row", x.differ(0, 2), asked ? 1L << w - 1 : STATE);
        x.stamp(2, DOWN);
        x.stamp(3, UP);
        due("first in the last row", x.differ(0, 2), asked ? 1L << w * (h - 1) : STATE);
        x.clear(0);
        x.add(0, NOT);
        due("at none already", x.differ(0, 2), asked ? 0 : STATE);
        for (int i = 0; i < 7; i++) {
            x.add(0, NOT);
        }
        due("eight turns", x.differ(0, 2), asked ? NONE : STATE);
        due("no ink comes", x.number(0), 0);
    }

    // ---- 3 pieces

    private static void piecesOverEnds(int w, int h) {
        about("CELLS hang together by sides, or by sides and corners: not over the end of a row");
        WornShapes x = laid(w, h);
        due("4 at first", x.rule(1, 4), 4);
        x.ink(0, 0, true);
        x.ink(0, w + 1, true);
        due("corners by sides", x.count(0, 0), 2);
        due("one of them", x.piece(0, 0), 1);
        x.rule(1, 8);
        due("corners by corners", x.count(0, 0), 1);
        due("both", x.piece(0, w + 1), 2);
        int[][] pairs = {{w - 1, w}, {0, 2 * w - 1}, {0, w - 1}, {0, w * (h - 1)}, {w - 1, w * h - 1}, {0, w * h - 1}};
        for (int[] pair : pairs) {
            int dx = Math.abs(pair[0] % w - pair[1] % w), dy = Math.abs(pair[0] / w - pair[1] / w);
            for (int join = 4; join <= 8; join += 4) {
                boolean hang = join == 4 ? dx + dy == 1 : Math.max(dx, dy) == 1;
                x.rule(1, join);
                put(x, 1, 1L << pair[0] | 1L << pair[1]);
                due(pair[0] + " and " + pair[1] + " by " + join, x.count(1, 0), hang ? 1 : 2);
                due(pair[0] + " and " + pair[1] + " by " + join, x.piece(1, pair[0]), hang ? 2 : 1);
                due("edge", x.count(1, 2), dx + dy == 1 ? 6 : 8);
            }
        }
    }

    private static void noneAndAll(int w, int h) {
        about("PIECES, HOLES, EDGE, CELLS of none and of all");
        WornShapes x = whole(w, h);
        for (int join = 4; join <= 8; join += 4) {
            x.rule(1, join);
            for (int what = 0; what < 4; what++) {
                due("of none", x.count(1, what), 0);
            }
            due("pieces of all", x.count(0, 0), 1);
            due("holes of all", x.count(0, 1), 0);
            due("edge of all", x.count(0, 2), 2 * (w + h));
            due("cells of all", x.count(0, 3), w * h);
            due("piece of all", x.piece(0, 0), w * h);
            due("piece of none", x.piece(1, 0), STATE);
            due("keep of none", x.keep(1, 0), STATE);
            due("keep of all", x.keep(0, w * h - 1), w * h);
            due("fill of none", x.fill(1), 0);
            due("fill of all", x.fill(0), 0);
            due("still none", x.number(1), 0);
            due("still all", x.number(0), all(w, h));
        }
    }

    private static void holesAtEdge(int w, int h) {
        about("HOLES: pieces of CELLS that are not in it without a CELL at the edge of THE FIELD");
        for (int join = 4; join <= 8; join += 4) {
            for (int c = 0; c < w * h; c++) {
                WornShapes x = whole(w, h);
                x.rule(1, join);
                x.ink(0, c, false);
                int hole = atEdge(w, h, c) ? 0 : 1;
                int near = 0;
                for (int step = 1; step < 9; step += 2) {
                    near += led(w, h, c, step) < 0 ? 0 : 1;
                }
                due("hole " + c, x.count(0, 1), hole);
                due("edge with a hole at " + c, x.count(0, 2), 2 * (w + h) + 2 * near - 4);
                due("filled " + c, x.fill(0), hole);
                due("cells then " + c, x.count(0, 3), w * h - 1 + hole);
            }
        }
    }

    private static void holesByOtherJoin() {
        about("HOLES: pieces of CELLS that are not in it (by the other JOIN)");
        WornShapes x = drawn("###", "#.#", "##.");
        due("open at a corner by JOIN 4", x.count(0, 1), 0);
        due("open at a corner by JOIN 4", x.fill(0), 0);
        x.rule(1, 8);
        due("closed at a corner by JOIN 8", x.count(0, 1), 1);
        due("closed at a corner by JOIN 8", x.fill(0), 1);
        looks(x, 0, "###", "###", "##.");
        x = drawn("####", "#.##", "##.#", "####");
        due("one by corners", x.count(0, 1), 1);
        x.rule(1, 8);
        due("two by sides", x.count(0, 1), 2);
        due("both are filled", x.fill(0), 2);
        x = drawn("#######", "#.....#", "#.###.#", "#.#.#.#", "#.###.#", "#.....#", "#######");
        due("a ring in a ring has two", x.count(0, 1), 2);
        due("pieces", x.count(0, 0), 2);
        due("all is filled", x.fill(0), 17);
        due("all", x.number(0), all(7, 7));
    }

    private static void chequers(int w, int h) {
        about("PIECES and HOLES where no two CELLS lie side by side");
        for (int first = 0; first < 2; first++) {
            WornShapes x = laid(w, h);
            put(x, 0, chequer(w, h, first));
            int cells = Long.bitCount(chequer(w, h, first));
            due("each by itself", x.count(0, 0), cells);
            due("no hole by corners", x.count(0, 1), 0);
            due("edge", x.count(0, 2), 4 * cells);
            due("boxes", x.boxes(0, true), cells);
            due("widest boxes", x.boxes(0, false), cells);
            due("covered", x.covered(0), cells > 20 ? STATE : cells);
            due("greatest", x.greatest(0, 0), first);
            due("greatest", x.greatest(0, 1), first);
            due("greatest", x.greatest(0, 2), 1);
            x.rule(1, 8);
            due("all by corners", x.count(0, 0), 1);
            int inner = 0;
            for (int c = 0; c < w * h; c++) {
                inner += !atEdge(w, h, c) && x.at(0, c) == 0 ? 1 : 0;
            }
            due("holes by sides", x.count(0, 1), inner);
            due("filled", x.fill(0), inner);
        }
    }

    // ---- 4 pairs, deep

    private static void pairNumbers() {
        about("PAIRS 0, 1, .. (8 at most)");
        WornShapes x = whole(3, 3);
        x.stamp(0, 0);
        due("none to forget", x.forget(), STATE);
        due("no pair 0", x.hits(0, 0), UNKNOWN);
        for (int i = 0; i < 8; i++) {
            due("not yet " + i, x.hits(0, i), UNKNOWN);
            due("pair " + i, x.pair(i % 4, i % 2), i);
            due("now " + i, x.hits(0, i) >= 0 ? 1 : 0, 1);
        }
        due("one more", x.pair(0, 0), FULL);
        due("no pair 8", x.hits(0, 8), UNKNOWN);
        for (int pair : new int[] {-1, 8, 9, 256, MIN, MAX}) {
            due("pair " + pair, x.hits(0, pair), UNKNOWN);
        }
        for (int left = 7; left >= 0; left--) {
            due("forgotten", x.forget(), left);
            due("gone", x.hits(0, left), UNKNOWN);
        }
        due("none to forget", x.forget(), STATE);
        due("from 0 again", x.pair(3, 3), 0);
    }

    private static void hitBeyond(int w, int h) {
        about("HIT, if each STEP of HIT leads to a CELL of it and no STEP of MISS does (beyond is none)");
        for (int rim = 0; rim < 2; rim++) {
            for (int step = 0; step < 9; step++) {
                WornShapes x = whole(w, h);
                x.rule(0, rim);
                x.stamp(0, 0);
                x.stamp(1, 1 << step);
                x.pair(1, 0);
                x.pair(0, 1);
                x.pair(1, 1);
                x.pair(0, 0);
                int leaving = Long.bitCount(leaving(w, h, step));
                due("hit by step " + step, x.hits(0, 0), w * h - leaving);
                due("missed by step " + step, x.hits(0, 1), leaving);
                due("both by step " + step, x.hits(0, 2), 0);
                due("neither", x.hits(0, 3), w * h);
                for (int pair = 0; pair < 4; pair++) {
                    due("none in none", x.hits(1, pair), 0);
                }
                x.thin(0);
                due("thinned away by no steps", x.number(0), 0);
            }
        }
        WornShapes x = laid(w, h);
        x.stamp(1, RIGHT);
        x.stamp(2, 0);
        x.pair(1, 2);
        x.ink(0, 1, true);
        due("a CELL of the picture alone is hit", x.hits(0, 0), 0);
        x.ink(0, 0, true);
        due("now it is one", x.hits(0, 0), 1);
    }

    private static void thinRounds(int w, int h) {
        about("TO THIN: PAIR by PAIR all that are HIT are taken away at once; till a round takes none away");
        WornShapes x = whole(w, h);
        x.stamp(1, LEFT);
        x.stamp(2, UP | LEFT);
        x.stamp(3, UP_LEFT | UP | UP_RIGHT | LEFT);
        due("without a pair", x.thin(0), 0);
        due("without a pair", x.number(0), all(w, h));
        int[] rounds = {0, w, w + h - 1, w + 2 * h - 2};
        for (int s = 1; s <= 3; s++) {
            x.pair(0, s);
            x.box(0, 0, w * h - 1, true);
            due("rounds by stamp " + s, x.thin(0), rounds[s]);
            due("all away", x.number(0), 0);
            due("none is left", x.thin(0), 0);
            x.forget();
        }
        x.pair(0, 0);
        x.box(0, 0, w * h - 1, true);
        due("a pair that hits none", x.thin(0), 0);
        due("a pair that hits none", x.number(0), all(w, h));
        x.stamp(1, 0);
        x.pair(1, 1);
        due("a pair that hits all", x.thin(0), 1);
        due("a pair that hits all", x.number(0), 0);
        x.forget();
        x.box(0, 0, w * h - 1, true);
        due("a pair that is forgotten", x.thin(0), 0);
        x.forget();
        x.stamp(1, LEFT);
        x.stamp(2, RIGHT);
        x.pair(0, 1);
        x.pair(0, 2);
        due("from both sides", x.thin(0), (w + 1) / 2);
    }

    private static void pairsAsStampsAre() {
        about("PAIRS: two STAMPS, HIT and MISS (as the STAMPS are when it is done)");
        WornShapes x = drawn("###", "...");
        x.stamp(1, 0);
        x.pair(1, 1);
        due("by no steps", x.hits(0, 0), 3);
        x.stamp(1, STAY);
        due("by the same step", x.hits(0, 0), 0);
        due("thinned as they are now", x.thin(0), 0);
        x.stamp(1, 0);
        due("thinned as they are then", x.thin(0), 1);
    }

    private static void deepAll(int w, int h) {
        about("DEEP lies a CELL of a picture by a STAMP; NONE: 60 times do not do that");
        WornShapes x = whole(w, h);
        x.stamp(1, SQUARE);
        x.stamp(2, 0);
        for (int c = 0; c < w * h; c++) {
            int cx = c % w, cy = c / w;
            int near = Math.min(Math.min(cx, w - 1 - cx), Math.min(cy, h - 1 - cy));
            x.rule(0, 1);
            due("with a rim " + c, x.deep(0, c, 1), NONE);
            due("by no steps " + c, x.deep(0, c, 2), NONE);
            due("by staying " + c, x.deep(0, c, 0), NONE);
            x.rule(0, 0);
            due("without " + c, x.deep(0, c, 1), near + 1);
            due("by no steps " + c, x.deep(0, c, 2), NONE);
            due("by staying " + c, x.deep(0, c, 0), NONE);
            due("not in the picture", x.deep(1, c, 1), STATE);
        }
        x = whole(w, h);
        x.ink(0, w * h - 1, false);
        x.stamp(3, RIGHT | DOWN);
        due("the farthest from a gap", x.deep(0, 0, 3), w + h - 2);
        due("next to the gap", x.deep(0, w * h - 2, 3), 1);
        x.stamp(3, RIGHT);
        due("another row has no gap", x.deep(0, 0, 3), NONE);
    }

    private static void deepFar() {
        about("DEEP: so many times it is WORN till the CELL is not in it");
        WornShapes x = whole(7, 7);
        x.ink(0, 0, false);
        x.stamp(0, UP_RIGHT | LEFT);
        due("the longest way there is", x.deep(0, 48, 0), 18);
        due("the picture stays", x.count(0, 3), 48);
        x = drawn("#.#", "...");
        x.stamp(0, LEFT);
        due("the first time, though it comes again", x.deep(0, 2, 0), 1);
        x.act(0, WEAR);
        x.act(0, WEAR);
        due("it comes again", x.at(0, 2), 1);
    }

    // ---- 5 explained, boxes

    private static void explainsEach() {
        about("A STAMP (any of all 512 as a number) EXPLAINS a PICTURE by another one");
        for (int steps = 0; steps < 512; steps++) {
            WornShapes x = laid(3, 3);
            x.ink(0, 4, true);
            put(x, 1, steps);
            due("how many make " + steps, x.explains(0, 1), 1);
            due("the one that makes " + steps, x.least(0, 1), steps);
        }
    }

    private static void explainsNoneAndAll(int w, int h) {
        about("EXPLAINS of none and of all");
        WornShapes x = whole(w, h);
        due("none by none", x.explains(1, 2), 512);
        due("none by itself", x.explains(1, 1), 512);
        due("least", x.least(1, 2), 0);
        due("all by none", x.explains(1, 0), 0);
        due("least", x.least(1, 0), NONE);
        due("none by all", x.explains(0, 1), 1);
        due("least", x.least(0, 1), 0);
        due("all by all", x.least(0, 0), STAY);
        x.ink(2, 0, true);
        due("none by a corner", x.explains(2, 1), 32);
        due("none by a corner", x.least(2, 1), 0);
        due("a corner by itself", x.explains(2, 2), 32);
        due("a corner by itself", x.least(2, 2), STAY);
        x.ink(3, 0, true);
        x.ink(3, w, true);
        x.ink(4, 1, true);
        x.ink(4, w + 1, true);
        due("one side by another", x.least(3, 4), RIGHT);
        due("and back", x.least(4, 3), LEFT);
    }

    private static void leastOfAsMany() {
        about("The least of them has the fewest STEPS, of as many the least number");
        WornShapes x = drawn("#.#.", "....");
        draw(x, 1, ".#.#", "....");
        due("right alone", x.least(0, 1), RIGHT);
        draw(x, 1, "##.#", "....");
        due("no way", x.least(0, 1), NONE);
        draw(x, 1, "####", "....");
        due("stay and right before left and right", x.least(0, 1), STAY | RIGHT);
        x = drawn("##", "##");
        due("one step before two", x.least(0, 0), STAY);
        draw(x, 0, "#.", ".#");
        draw(x, 1, "##", "##");
        due("stay or both; up, right or both; left, down or both; two are free", x.explains(0, 1), 5 * 3 * 3 * 4);
        due("of three steps the least number", x.least(0, 1), UP | LEFT | STAY);
    }

    private static void boxesOfAll(int w, int h) {
        about("BOXES of none, of one CELL and of all");
        WornShapes x = whole(w, h);
        int last = w * h - 1;
        due("all boxes", x.boxes(0, true), w * (w + 1) / 2 * (h * (h + 1) / 2));
        due("the widest", x.boxes(0, false), 1);
        due("the first of the greatest", x.greatest(0, 0), 0);
        due("its last", x.greatest(0, 1), last);
        due("its cells", x.greatest(0, 2), w * h);
        due("covered", x.covered(0), w * h <= 20 ? 1 : STATE);
        due("no box", x.boxes(1, true), 0);
        due("no widest box", x.boxes(1, false), 0);
        due("covered by none", x.covered(1), 0);
        for (int what = 0; what < 3; what++) {
            due("no greatest", x.greatest(1, what), NONE);
        }
        for (int c = 0; c <= last; c++) {
            due("alone in all", x.alone(0, c), 1);
            due("not in none", x.alone(1, c), STATE);
        }
        for (int c : new int[] {0, w - 1, w, last}) {
            put(x, 2, 1L << c);
            due("one box", x.boxes(2, true), 1);
            due("one box", x.boxes(2, false), 1);
            due("first", x.greatest(2, 0), c);
            due("last", x.greatest(2, 1), c);
            due("cells", x.greatest(2, 2), 1);
            due("covered", x.covered(2), 1);
            due("alone", x.alone(2, c), 1);
        }
    }

    private static void boxesOverEnds(int w, int h) {
        about("BOXES: all CELLS from x to x and from y to y: none goes over the end of a row");
        WornShapes x = laid(w, h);
        x.ink(0, w - 1, true);
        x.ink(0, w, true);
        due("two by themselves", x.boxes(0, true), 2);
        due("two by themselves", x.boxes(0, false), 2);
        due("two by themselves", x.greatest(0, 2), 1);
        due("two by themselves", x.covered(0), 2);
        due("alone", x.alone(0, w - 1), 1);
        x.box(1, 0, w - 1, true);
        x.box(1, 0, w * (h - 1), true);
        due("a row and a column", x.boxes(1, true), w * (w + 1) / 2 + h * (h + 1) / 2 - 1);
        due("a row and a column", x.boxes(1, false), 2);
        due("a row and a column", x.covered(1), 2);
        due("the corner", x.alone(1, 0), 0);
        due("the end of the row", x.alone(1, w - 1), 1);
        due("the longer one", x.greatest(1, 2), Math.max(w, h));
        due("of like ones that with the first last cell", x.greatest(1, 1), h > w ? w * (h - 1) : w - 1);
    }

    private static void greatestOfLike() {
        about("THE GREATEST: of like ones the first by its first CELL, then by its last one");
        WornShapes x = drawn("####...", "##.....", "#......", "#......", ".......", ".....##", ".....##");
        due("a row before a square", x.greatest(0, 1), 3);
        x.ink(0, 3, false);
        due("a square before a column", x.greatest(0, 1), 8);
        x.ink(0, 8, false);
        due("the column", x.greatest(0, 1), 21);
        x.ink(0, 21, false);
        due("the square at the end", x.greatest(0, 0), 40);
        due("the square at the end", x.greatest(0, 1), 48);
        x = drawn("......#", "......#", "##....#", "##....#", ".......", ".......", ".......");
        due("its first cell, whatever its last", x.greatest(0, 0), 6);
        due("its first cell, whatever its last", x.greatest(0, 1), 27);
        x.ink(0, 16, true);
        x.ink(0, 23, true);
        due("most cells, whatever comes first", x.greatest(0, 0), 14);
        due("most cells, whatever comes first", x.greatest(0, 2), 6);
    }

    private static void coveredMost() {
        about("COVERED: the fewest (asked only where it has 20 CELLS at most)");
        WornShapes x = laid(7, 7);
        x.box(0, 0, 24, true);
        due("16", x.covered(0), 1);
        x.box(0, 0, 25, true);
        due("20 in one", x.covered(0), 1);
        x.ink(0, 48, true);
        due("21", x.covered(0), STATE);
        x.ink(0, 0, false);
        due("20 of three", x.covered(0), 3);
        x.box(0, 0, 48, true);
        due("49", x.covered(0), STATE);
        put(x, 1, chequer(7, 7, 0));
        due("25 by themselves", x.covered(1), STATE);
        for (int c = 48; c > 40; c -= 2) {
            x.ink(1, c, false);
        }
        due("21 by themselves", x.covered(1), STATE);
        x.ink(1, 40, false);
        due("20 by themselves", x.covered(1), 20);
        x.ink(1, 0, false);
        due("19 by themselves", x.covered(1), 19);
        x = drawn(".##..", "####.", "#####", ".####", "..##.");
        due("17 in stairs", x.count(0, 3), 17);
        due("stairs", x.covered(0), 4);
    }

    private static void coveredCorner(int w, int h) {
        about("COVERED: boxes that have all its CELLS together, the first and the last CELL too");
        WornShapes x = laid(w, h);
        int last = w * h - 1;
        put(x, 0, 1L | 1L << last - 1 | 1L << last);
        due("the first by itself, two at the end", x.covered(0), 2);
        put(x, 0, 3L | 1L << last);
        due("two at the beginning, the last by itself", x.covered(0), 2);
        put(x, 0, 1L | 1L << w | 1L << last);
        due("a column at the beginning", x.covered(0), 2);
        put(x, 0, 1L);
        due("the first", x.covered(0), 1);
        put(x, 0, 0L);
        due("none behind all that", x.covered(0), 0);
    }

    private static void aloneCells() {
        about("ALONE is a CELL of it, if just one BOX that no other BOX contains has it");
        WornShapes x = drawn("##.", "###", ".##");
        int[] want = {1, 0, STATE, 0, 0, 0, STATE, 0, 1};
        for (int c = 0; c < 9; c++) {
            due("cell " + c, x.alone(0, c), want[c]);
        }
    }

    // ---- the whole life of an object

    private static long drawnNumber(int i) {
        long mixed = (i + 1) * 0x9E3779B97F4A7C15L;
        long other = (i + 7) * 0xC2B2AE3D27D4EB4FL;
        return i % 3 == 0 ? mixed >>> 15 : (mixed & other) >>> 15;
    }

    private static long[] askedOf(WornShapes x, long number) {
        put(x, 0, number);
        x.mix(3, 0, 0, 1);
        x.act(1, GROW + 1);
        int cell = Math.max(0, x.greatest(0, 0));
        return new long[] {
            x.covered(0), x.greatest(0, 0), x.greatest(0, 1), x.greatest(0, 2), x.boxes(0, false),
            x.alone(0, cell), x.count(0, 0), x.count(0, 1), x.piece(0, cell), x.shortest(0, 1),
            x.step(0, 1, 0), x.step(0, 1, 1), x.explains(0, 1), x.least(0, 1), x.deep(0, cell, 1)
        };
    }

    private static void askedAgain() {
        about("what was asked before does not matter");
        WornShapes used = laid(7, 7);
        used.stamp(1, CROSS);
        for (int i = 0; i < 60; i++) {
            if (i % 8 == 0) {
                // behind some 400 calls what is answered would be free
                used = laid(7, 7);
                used.stamp(1, CROSS);
            }
            WornShapes fresh = laid(7, 7);
            fresh.stamp(1, CROSS);
            long[] got = askedOf(used, drawnNumber(i));
            long[] want = askedOf(fresh, drawnNumber(i));
            for (int k = 0; k < want.length; k++) {
                due("picture " + i + ", answer " + k, got[k], want[k]);
            }
        }
        WornShapes x = drawn("#.#", "...", "###");
        due("three boxes", x.covered(0), 3);
        draw(x, 0, "...", "...", "#.#");
        due("two cells of the third box", x.covered(0), 2);
        draw(x, 0, "###", "...", "..#");
        due("two boxes", x.covered(0), 2);
        draw(x, 0, "#.#", "...", "...");
        due("two cells of the first box", x.covered(0), 2);
    }

    private static void mixedIntoItself(int w, int h) {
        about("mix: One PICTURE becomes what two are, though it may be one of the two");
        WornShapes x = laid(w, h);
        put(x, 0, chequer(w, h, 0));
        x.box(1, 0, w - 1, true);
        int cells = Long.bitCount(chequer(w, h, 0));
        due("both, itself", x.mix(0, 0, 0, 0), cells);
        due("one or the other, itself", x.mix(1, 0, 0, 0), cells);
        due("the first, itself", x.mix(3, 0, 0, 0), cells);
        due("as it was", x.number(0), chequer(w, h, 0));
        due("into the second", x.mix(0, 0, 1, 1), (w + 1) / 2);
        due("into the first", x.mix(2, 0, 1, 0), cells - (w + 1) / 2);
        due("none of both", x.mix(0, 0, 1, 2), 0);
        due("all that was", x.mix(1, 0, 1, 1), cells);
        due("all that was", x.number(1), chequer(w, h, 0));
        due("none and not all", x.mix(2, 3, 1, 1), 0);
        due("the first of none", x.mix(3, 4, 0, 0), 0);
        due("the first of none", x.number(0), 0);
    }

    private static void lastCall() {
        about("An object is used for at most 512 calls");
        WornShapes x = laid(7, 7);
        x.stamp(0, SQUARE);
        x.stamp(1, CROSS);
        x.stamp(2, LEFT | DOWN);
        x.box(0, 8, 40, true);
        x.ink(1, 24, true);
        x.ink(1, 25, true);
        x.ink(1, 0, true);
        for (int call = 9; call <= 511; call++) {
            due("no way, call " + call, x.shortest(0, 1), NONE);
        }
        due("call 512", x.number(0), square());

        x = laid(4, 3);
        x.stamp(0, SQUARE);
        for (int i = 0; i < 8; i++) {
            x.add(0, i % 2 == 0 ? OPEN : CLOSE);
            x.add(1, i % 2 == 0 ? OPEN : CLOSE);
        }
        for (int call = 19; call <= 511; call++) {
            due("they agree, call " + call, x.differ(0, 1), NONE);
        }
        due("call 512", x.clear(1), 8);
    }

    /** The 5 by 5 cells in the middle of 7 by 7. */
    private static long square() {
        long cells = 0L;
        for (int c = 0; c < 49; c++) {
            cells |= atEdge(7, 7, c) ? 0L : 1L << c;
        }
        return cells;
    }

    public static void main(String[] args) {
        sides();
        pictures();
        stamps();
        openedClosed();
        actNumbers();
        programs();
        shortestLengths();
        shortestKinds();
        shortestFirst();
        holesByOtherJoin();
        pairNumbers();
        pairsAsStampsAre();
        deepFar();
        explainsEach();
        leastOfAsMany();
        greatestOfLike();
        coveredMost();
        aloneCells();
        lastCall();
        askedAgain();
        onAllFields(BoundsTest::coveredCorner);
        onAllFields(BoundsTest::mixedIntoItself);
        onAllFields(BoundsTest::cellNumbers);
        onAllFields(BoundsTest::lastCell);
        onAllFields(BoundsTest::otherField);
        onAllFields(BoundsTest::boxCorners);
        onAllFields(BoundsTest::steps);
        onAllFields(BoundsTest::rim);
        onAllFields(BoundsTest::noSteps);
        onAllFields(BoundsTest::not);
        onAllFields(BoundsTest::agree);
        onAllFields(BoundsTest::piecesOverEnds);
        onAllFields(BoundsTest::noneAndAll);
        onAllFields(BoundsTest::holesAtEdge);
        onAllFields(BoundsTest::chequers);
        onAllFields(BoundsTest::hitBeyond);
        onAllFields(BoundsTest::thinRounds);
        onAllFields(BoundsTest::deepAll);
        onAllFields(BoundsTest::explainsNoneAndAll);
        onAllFields(BoundsTest::boxesOfAll);
        onAllFields(BoundsTest::boxesOverEnds);
        finish();
    }
}

/** For each promise runs of calls on new objects, each with the answer that the document asks. */
public final class PromisesTest extends Checks {
    private static final int[] WILD = {-1, Integer.MIN_VALUE, Integer.MAX_VALUE, -49, 1 << 20};

    private static void newObject() {
        WornShapes x = new WornShapes();
        for (int p = 0; p < 5; p++) {
            due("number", x.number(p), 0);
        }
        due("at last cell", x.at(0, 35), 0);
        due("at beyond", x.at(0, 36), UNKNOWN);
        due("row below", x.box(0, 0, 6, true), 2);
        for (int s = 0; s < 4; s++) {
            due("stamp", x.stamp(s, STAY), STAY);
        }
        due("rim", x.rule(0, 1), 1);
        due("join", x.rule(1, 4), 4);
        for (int p = 0; p < 3; p++) {
            due("clear", x.clear(p), 0);
        }
        due("forget", x.forget(), STATE);
    }

    private static void field() {
        WornShapes x = new WornShapes();
        due("2 by 2", x.field(2, 2), 4);
        due("7 by 7", x.field(7, 7), 49);
        due("2 by 7", x.field(2, 7), 14);
        due("7 by 2", x.field(7, 2), 14);
        due("3 by 5", x.field(3, 5), 15);
        due("width", x.box(0, 0, 3, true), 2);
        int[] sides = {1, 0, 8, -1, Integer.MIN_VALUE, Integer.MAX_VALUE};
        for (int side : sides) {
            due("wide " + side, x.field(side, 5), OUTSIDE);
            due("high " + side, x.field(5, side), OUTSIDE);
        }
        due("refused changes nothing", x.number(0), 1 | 1 << 3);
        due("cells as before", x.at(0, 15), UNKNOWN);
        for (int p = 0; p < 5; p++) {
            x.ink(p, p, true);
        }
        x.stamp(1, RIGHT);
        x.add(2, 1);
        x.pair(0, 1);
        x.rule(0, 0);
        x.rule(1, 8);
        due("another", x.field(3, 5), 15);
        for (int p = 0; p < 5; p++) {
            due("no ink", x.number(p), 0);
        }
        due("stamps stay", x.stamp(1, RIGHT), RIGHT);
        due("programs stay", x.clear(2), 1);
        due("pairs stay", x.forget(), 0);
        due("rim stays", x.rule(0, 0), 0);
        due("join stays", x.rule(1, 8), 8);
    }

    private static void ink() {
        WornShapes x = new WornShapes();
        due("first", x.ink(4, 35, true), 0);
        due("again", x.ink(4, 35, true), 1);
        due("off", x.ink(4, 35, false), 1);
        due("off again", x.ink(4, 35, false), 0);
        x.ink(4, 7, true);
        due("that one alone", x.number(4), 1L << 7);
        due("no other picture", x.number(3), 0);
        due("picture 5", x.ink(5, 0, true), UNKNOWN);
        due("cell 36", x.ink(0, 36, true), UNKNOWN);
        for (int wild : WILD) {
            due("picture " + wild, x.ink(wild, 0, true), UNKNOWN);
            due("cell " + wild, x.ink(0, wild, true), UNKNOWN);
        }
        due("nothing changed", x.number(0), 0);
    }

    private static void box() {
        WornShapes x = new WornShapes();
        x.field(4, 3);
        due("2 by 2", x.box(0, 1, 6, true), 4);
        looks(x, 0, ".##.", ".##.", "....");
        due("over it", x.box(0, 6, 11, true), 7);
        looks(x, 0, ".##.", ".###", "..##");
        due("out of it", x.box(0, 2, 10, false), 4);
        looks(x, 0, ".#..", ".#.#", "...#");
        due("one cell", x.box(0, 0, 0, true), 5);
        due("before in x", x.box(0, 1, 4, true), OUTSIDE);
        due("before in y", x.box(0, 4, 1, true), OUTSIDE);
        due("before in both", x.box(0, 11, 0, false), OUTSIDE);
        due("nothing changed", x.count(0, 3), 5);
        due("picture 5", x.box(5, 1, 0, true), UNKNOWN);
        due("cell 12", x.box(0, 12, 0, true), UNKNOWN);
        due("other 12", x.box(0, 0, 12, true), UNKNOWN);
        for (int wild : WILD) {
            due("picture " + wild, x.box(wild, 0, 1, true), UNKNOWN);
            due("cell " + wild, x.box(0, wild, 1, true), UNKNOWN);
            due("other " + wild, x.box(0, 0, wild, true), UNKNOWN);
        }
        x.field(7, 7);
        due("all", x.box(1, 0, 48, true), 49);
        due("none", x.box(1, 0, 48, false), 0);
    }

    private static void at() {
        WornShapes x = new WornShapes();
        x.field(7, 7);
        x.ink(2, 48, true);
        due("in", x.at(2, 48), 1);
        due("not in", x.at(2, 47), 0);
        due("other picture", x.at(1, 48), 0);
        due("picture 5", x.at(5, 0), UNKNOWN);
        due("cell 49", x.at(0, 49), UNKNOWN);
        for (int wild : WILD) {
            due("picture " + wild, x.at(wild, 0), UNKNOWN);
            due("cell " + wild, x.at(0, wild), UNKNOWN);
        }
    }

    private static void number() {
        WornShapes x = new WornShapes();
        x.field(7, 7);
        x.ink(3, 0, true);
        x.ink(3, 48, true);
        due("first and last", x.number(3), 1L | 1L << 48);
        x.box(4, 0, 48, true);
        due("all", x.number(4), (1L << 49) - 1);
        due("picture 5", x.number(5), UNKNOWN);
        for (int wild : WILD) {
            due("picture " + wild, x.number(wild), UNKNOWN);
        }
    }

    private static void stamp() {
        WornShapes x = new WornShapes();
        due("first", x.stamp(3, 511), STAY);
        due("then", x.stamp(3, 0), 511);
        due("then", x.stamp(3, 5), 0);
        due("512", x.stamp(3, 512), OUTSIDE);
        due("-1", x.stamp(3, -1), OUTSIDE);
        due("nothing changed", x.stamp(3, 5), 5);
        due("no other one", x.stamp(2, 1), STAY);
        due("unknown goes first", x.stamp(4, 512), UNKNOWN);
        for (int wild : WILD) {
            due("stamp " + wild, x.stamp(wild, 0), UNKNOWN);
            due("steps " + wild, x.stamp(0, wild), OUTSIDE);
        }
    }

    private static void rule() {
        WornShapes x = new WornShapes();
        due("rim", x.rule(0, 0), 1);
        due("rim", x.rule(0, 1), 0);
        due("join", x.rule(1, 8), 4);
        due("join", x.rule(1, 4), 8);
        int[][] bad = {{0, 2}, {0, -1}, {0, 4}, {0, 8}, {1, 0}, {1, 1}, {1, 5}, {1, 6}, {1, 12}, {2, 0}, {2, 4}, {-1, 0}};
        for (int[] b : bad) {
            due("rule(" + b[0] + ", " + b[1] + ")", x.rule(b[0], b[1]), OUTSIDE);
        }
        for (int wild : WILD) {
            due("what " + wild, x.rule(wild, 1), OUTSIDE);
            due("rim " + wild, x.rule(0, wild), OUTSIDE);
            due("join " + wild, x.rule(1, wild), OUTSIDE);
        }
        due("rim as before", x.rule(0, 1), 1);
        due("join as before", x.rule(1, 4), 4);
    }

    private static void mix() {
        WornShapes x = drawn("##..", "##..");
        draw(x, 1, ".##.", ".##.");
        due("both", x.mix(0, 0, 1, 2), 2);
        looks(x, 2, ".#..", ".#..");
        due("one or the other", x.mix(1, 0, 1, 2), 6);
        looks(x, 2, "###.", "###.");
        due("first, not second", x.mix(2, 0, 1, 2), 2);
        looks(x, 2, "#...", "#...");
        due("the first", x.mix(3, 1, 0, 2), 4);
        looks(x, 2, ".##.", ".##.");
        due("b not looked at", x.mix(3, 0, 77, 4), 4);
        due("into itself", x.mix(2, 0, 0, 0), 0);
        looks(x, 1, ".##.", ".##.");
        due("what goes first", x.mix(4, 9, 9, 9), OUTSIDE);
        due("what -1", x.mix(-1, 0, 0, 0), OUTSIDE);
        due("a", x.mix(0, 5, 0, 0), UNKNOWN);
        due("b", x.mix(0, 0, 5, 0), UNKNOWN);
        due("to", x.mix(0, 0, 0, 5), UNKNOWN);
        due("a of 3", x.mix(3, 5, 0, 0), UNKNOWN);
        due("to of 3", x.mix(3, 1, 0, 5), UNKNOWN);
        for (int wild : WILD) {
            due("what " + wild, x.mix(wild, 0, 0, 0), OUTSIDE);
            due("a " + wild, x.mix(1, wild, 1, 1), UNKNOWN);
            due("b " + wild, x.mix(1, 1, wild, 1), UNKNOWN);
            due("to " + wild, x.mix(3, 1, 1, wild), UNKNOWN);
            due("b of 3 " + wild, x.mix(3, 1, wild, 1), 4);
        }
    }

    private static void act() {
        WornShapes x = drawn("....", ".##.", "....");
        x.stamp(1, CROSS);
        due("grown by the cross", x.act(0, GROW + 1), 8);
        looks(x, 0, ".##.", "####", ".##.");
        due("worn with a rim", x.act(0, WEAR + 1), 2);
        looks(x, 0, "....", ".##.", "....");
        draw(x, 0, "##..", "##..", "....");
        due("worn at the rim", x.act(0, WEAR + 1), 1);
        looks(x, 0, "#...", "....", "....");
        x.rule(0, 0);
        draw(x, 0, "####", "####", "###.");
        due("worn without a rim", x.act(0, WEAR + 1), 2);
        looks(x, 0, "....", ".##.", "....");

        x.stamp(2, RIGHT | DOWN);
        draw(x, 0, "#..#", "....", "...#");
        due("grown one way", x.act(0, GROW + 2), 3);
        looks(x, 0, ".#..", "#..#", "....");
        draw(x, 0, "##..", "#..#", "....");
        due("worn one way", x.act(0, WEAR + 2), 1);
        looks(x, 0, "#...", "....", "....");
        x.rule(0, 1);
        draw(x, 0, "##..", "#..#", "....");
        due("worn one way with a rim", x.act(0, WEAR + 2), 3);
        looks(x, 0, "#..#", "....", "...#");

        x.stamp(3, 0);
        due("grown by nothing", x.act(0, GROW + 3), 0);
        due("worn by nothing", x.act(0, WEAR + 3), 12);
        due("not", x.act(0, NOT), 0);

        x.rule(0, 0);
        x.stamp(3, STAY | RIGHT);
        draw(x, 0, "#.##", "##..", "...#");
        due("opened", x.act(0, OPEN + 3), 4);
        looks(x, 0, "..##", "##..", "....");
        draw(x, 0, "#.#.", "#..#", "....");
        due("closed", x.act(0, CLOSE + 3), 4);
        looks(x, 0, "###.", "#...", "....");
        x.rule(0, 1);
        draw(x, 0, "#.#.", "#..#", "....");
        due("closed with a rim", x.act(0, CLOSE + 3), 6);
        looks(x, 0, "####", "#..#", "....");

        due("corners", cornerSteps(), 0);
        badActs(x);
    }

    /** Each step by itself from the middle of 3 by 3 leads to the cell of its number. */
    private static int cornerSteps() {
        WornShapes x = new WornShapes();
        x.field(3, 3);
        int off = 0;
        for (int step = 0; step < 9; step++) {
            x.stamp(0, 1 << step);
            x.box(0, 0, 8, false);
            x.ink(0, 4, true);
            x.act(0, GROW);
            off += x.number(0) == 1L << step ? 0 : 1;
        }
        return off;
    }

    private static void badActs(WornShapes x) {
        int[] bad = {4, 9, 14, 19, 24, 29, 34, 39, 41, 43, 50, 100, -1, -10, -40, -7};
        long before = x.number(0);
        for (int act : bad) {
            due("act " + act, x.act(0, act), OUTSIDE);
        }
        for (int wild : WILD) {
            due("act " + wild, x.act(0, wild), OUTSIDE);
            due("picture " + wild, x.act(wild, 0), UNKNOWN);
        }
        due("unknown goes first", x.act(5, 99), UNKNOWN);
        due("nothing changed", x.number(0), before);
    }

    private static void would() {
        WornShapes x = drawn("....", ".##.", "....");
        x.stamp(1, CROSS);
        x.stamp(2, RIGHT);
        due("grown", x.would(0, GROW + 1), 6);
        due("moved", x.would(0, GROW + 2), 2);
        due("worn", x.would(0, WEAR + 1), 2);
        due("stays", x.would(0, GROW), 0);
        due("not", x.would(0, NOT), 12);
        looks(x, 0, "....", ".##.", "....");
        due("unknown goes first", x.would(5, 99), UNKNOWN);
        due("act 41", x.would(0, 41), OUTSIDE);
        due("act 4", x.would(0, 4), OUTSIDE);
        for (int wild : WILD) {
            due("act " + wild, x.would(0, wild), OUTSIDE);
            due("picture " + wild, x.would(wild, 0), UNKNOWN);
        }
    }

    private static void add() {
        WornShapes x = new WornShapes();
        for (int i = 1; i <= 8; i++) {
            due("add", x.add(1, NOT), i);
        }
        due("ninth", x.add(1, NOT), FULL);
        due("outside goes before full", x.add(1, 41), OUTSIDE);
        due("unknown goes first", x.add(3, 41), UNKNOWN);
        due("other program", x.add(2, 33), 1);
        due("act 34", x.add(2, 34), OUTSIDE);
        for (int wild : WILD) {
            due("program " + wild, x.add(wild, 0), UNKNOWN);
            due("act " + wild, x.add(2, wild), OUTSIDE);
        }
        due("had", x.clear(2), 1);
        due("still full", x.clear(1), 8);
    }

    private static void clear() {
        WornShapes x = new WornShapes();
        x.add(0, NOT);
        x.add(0, GROW);
        x.add(1, NOT);
        due("had two", x.clear(0), 2);
        due("has none", x.clear(0), 0);
        due("run does nothing", x.run(0, 0), 0);
        due("starts anew", x.add(0, NOT), 1);
        due("the other one stays", x.clear(1), 1);
        due("program 3", x.clear(3), UNKNOWN);
        for (int wild : WILD) {
            due("program " + wild, x.clear(wild), UNKNOWN);
        }
    }

    private static void run() {
        WornShapes x = drawn("#....", ".....");
        x.stamp(1, RIGHT);
        x.stamp(2, STAY | DOWN);
        x.add(2, GROW + 1);
        x.add(2, GROW + 2);
        x.add(2, NOT);
        due("in order", x.run(2, 0), 8);
        looks(x, 0, "#.###", "#.###");
        x.stamp(1, STAY);
        draw(x, 0, "#....", ".....");
        due("stamps as they are now", x.run(2, 0), 8);
        looks(x, 0, ".####", ".####");
        due("no acts", x.run(0, 0), 8);
        due("program 3", x.run(3, 0), UNKNOWN);
        due("picture 5", x.run(0, 5), UNKNOWN);
        for (int wild : WILD) {
            due("program " + wild, x.run(wild, 0), UNKNOWN);
            due("picture " + wild, x.run(2, wild), UNKNOWN);
        }
        looks(x, 0, ".####", ".####");
    }

    private static WornShapes walker() {
        WornShapes x = new WornShapes();
        x.field(7, 2);
        x.stamp(0, RIGHT);
        x.ink(0, 0, true);
        x.ink(1, 4, true);
        x.ink(2, 5, true);
        return x;
    }

    private static void shortest() {
        WornShapes x = walker();
        due("itself", x.shortest(0, 0), 0);
        due("four to the right", x.shortest(0, 1), 4);
        due("five to the right", x.shortest(0, 2), NONE);
        due("back", x.shortest(1, 0), NONE);
        x.mix(3, 0, 0, 3);
        due("as another one", x.shortest(0, 3), 0);
        x.act(3, NOT);
        due("inside out", x.shortest(0, 3), 1);
        due("nothing changed", x.number(0), 1);
        x.stamp(1, CROSS);
        x.mix(3, 1, 0, 3);
        x.act(3, OPEN + 1);
        due("opened away", x.shortest(1, 3), 1);
        x = drawn("##..", "....");
        x.stamp(1, STAY | RIGHT);
        x.rule(0, 0);
        draw(x, 1, "##.#", "....");
        due("opened is worn and grown", x.shortest(1, 0), 2);
        due("worn first", x.step(1, 0, 0), WEAR + 1);
        due("grown then", x.step(1, 0, 1), GROW + 1);
        due("picture 5", x.shortest(0, 5), UNKNOWN);
        due("picture 5", x.shortest(5, 0), UNKNOWN);
        for (int wild : WILD) {
            due("from " + wild, x.shortest(wild, 0), UNKNOWN);
            due("to " + wild, x.shortest(0, wild), UNKNOWN);
        }
    }

    private static void step() {
        WornShapes x = walker();
        for (int i = 0; i < 4; i++) {
            due("right", x.step(0, 1, i), 0);
        }
        due("behind the last", x.step(0, 1, 4), NONE);
        due("no way", x.step(0, 2, 0), NONE);
        due("no act", x.step(0, 0, 0), NONE);
        for (int wild : WILD) {
            due("i " + wild, x.step(0, 1, wild), NONE);
            due("from " + wild, x.step(wild, 0, 0), UNKNOWN);
            due("to " + wild, x.step(0, wild, 0), UNKNOWN);
        }
        due("unknown goes before none", x.step(0, 5, -1), UNKNOWN);

        x = drawn("#..", "...", "...");
        x.stamp(1, RIGHT);
        x.stamp(2, DOWN);
        x.stamp(3, LEFT);
        x.ink(1, 4, true);
        due("right and down", x.shortest(0, 1), 2);
        due("right goes first", x.step(0, 1, 0), 1);
        due("then down", x.step(0, 1, 1), 2);
        draw(x, 2, "#.#", "###", "###");
        due("right and inside out", x.shortest(0, 2), 2);
        due("1, 40 goes before 40, 13", x.step(0, 2, 0), 1);
        due("1, 40 goes before 40, 13", x.step(0, 2, 1), NOT);
        x.stamp(0, RIGHT);
        due("of like stamps the first", x.step(0, 1, 0), 0);
        x.stamp(0, STAY);
        x.stamp(1, STAY);
        x.stamp(2, LEFT);
        x.stamp(3, STAY);
        draw(x, 0, "...", "..#", "...");
        draw(x, 1, "#..", "#.#", "#..");
        x.rule(0, 0);
        due("to the left and back", x.shortest(1, 0), 2);
        due("to the left", x.step(1, 0, 0), GROW + 2);
        due("and back", x.step(1, 0, 1), WEAR + 2);
        draw(x, 1, ".#.", "...", "...");
        draw(x, 0, "..#", "...", "...");
        due("worn to the right", x.step(1, 0, 0), WEAR + 2);
    }

    private static void differ() {
        WornShapes x = new WornShapes();
        due("36 cells", x.differ(0, 1), STATE);
        due("unknown goes first", x.differ(3, 0), UNKNOWN);
        due("unknown goes first", x.differ(0, 3), UNKNOWN);
        x.field(2, 7);
        due("14 cells", x.differ(0, 1), STATE);
        x.field(2, 6);
        due("both empty", x.differ(0, 1), NONE);
        x.add(0, NOT);
        due("at none", x.differ(0, 1), 0);
        x.add(0, NOT);
        due("twice inside out", x.differ(0, 1), NONE);
        due("with itself", x.differ(0, 0), NONE);

        x.field(3, 4);
        x.stamp(1, SQUARE);
        x.stamp(2, 0);
        x.clear(0);
        x.add(0, WEAR + 1);
        x.add(1, GROW + 2);
        due("a full corner", x.differ(0, 1), 27);
        due("the other way round", x.differ(1, 0), 27);
        x.rule(0, 0);
        due("a full square", x.differ(0, 1), 511);
        x.field(2, 2);
        due("none without a rim", x.differ(0, 1), NONE);
        x.rule(0, 1);
        due("all four", x.differ(0, 1), 15);
        x.ink(0, 1, true);
        x.differ(0, 1);
        due("pictures stay", x.number(0), 2);
        for (int wild : WILD) {
            due("a " + wild, x.differ(wild, 0), UNKNOWN);
            due("b " + wild, x.differ(0, wild), UNKNOWN);
        }
    }

    private static void count() {
        WornShapes x = drawn(".#.", "#.#", ".#.");
        due("pieces by sides", x.count(0, 0), 4);
        due("holes by corners", x.count(0, 1), 0);
        due("edge", x.count(0, 2), 16);
        due("cells", x.count(0, 3), 4);
        x.rule(1, 8);
        due("pieces by corners", x.count(0, 0), 1);
        due("holes by sides", x.count(0, 1), 1);
        x = drawn("#####", "#.#.#", "##.##", "#.#.#", "#####");
        due("pieces", x.count(0, 0), 1);
        due("one hole by corners", x.count(0, 1), 1);
        x.rule(1, 8);
        due("five holes by sides", x.count(0, 1), 5);
        due("edge", x.count(0, 2), 20 + 20);
        x = drawn("###.", "#.#.", "##..", "....");
        due("open at a corner", x.count(0, 1), 0);
        x.rule(1, 8);
        due("closed by sides", x.count(0, 1), 1);
        x = drawn("##", "##");
        due("edge of all", x.count(0, 2), 8);
        due("no hole", x.count(0, 1), 0);
        due("none has no pieces", x.count(1, 0), 0);
        due("none has no holes", x.count(1, 1), 0);
        due("none has no edge", x.count(1, 2), 0);
        due("what 4", x.count(0, 4), OUTSIDE);
        due("what -1", x.count(0, -1), OUTSIDE);
        due("unknown goes first", x.count(5, 4), UNKNOWN);
        for (int wild : WILD) {
            due("picture " + wild, x.count(wild, 0), UNKNOWN);
            due("what " + wild, x.count(0, wild), OUTSIDE);
        }
    }

    private static void piece() {
        WornShapes x = drawn("##..#", "#..#.", "..#..", ".....", "#...#");
        due("first", x.piece(0, 0), 3);
        due("by sides", x.piece(0, 12), 1);
        due("not over the edge", x.piece(0, 4), 1);
        x.rule(1, 8);
        due("by corners", x.piece(0, 12), 3);
        due("end of it", x.piece(0, 4), 3);
        due("first", x.piece(0, 0), 3);
        due("alone", x.piece(0, 24), 1);
        due("no ink", x.piece(0, 1 + 5), STATE);
        due("unknown goes first", x.piece(5, 6), UNKNOWN);
        due("cell 25", x.piece(0, 25), UNKNOWN);
        for (int wild : WILD) {
            due("picture " + wild, x.piece(wild, 0), UNKNOWN);
            due("cell " + wild, x.piece(0, wild), UNKNOWN);
        }
        x = drawn("#######", "......#", "#######", "#......", "#######", "......#", "#######");
        due("a snake", x.piece(0, 0), 31);
    }

    private static void keep() {
        WornShapes x = drawn("##..#", "#..#.", "..#..");
        due("no ink", x.keep(0, 2), STATE);
        due("picture 5", x.keep(5, 0), UNKNOWN);
        due("cell 15", x.keep(0, 15), UNKNOWN);
        for (int wild : WILD) {
            due("picture " + wild, x.keep(wild, 0), UNKNOWN);
            due("cell " + wild, x.keep(0, wild), UNKNOWN);
        }
        looks(x, 0, "##..#", "#..#.", "..#..");
        x.rule(1, 8);
        due("by corners", x.keep(0, 8), 3);
        looks(x, 0, "....#", "...#.", "..#..");
        x.rule(1, 4);
        due("by sides", x.keep(0, 8), 1);
        looks(x, 0, ".....", "...#.", ".....");
    }

    private static void fill() {
        WornShapes x = drawn("###.###", "#.#.#..", "#######", "#.#..##", "####.##", "##.####", "#######");
        due("by corners", x.fill(0), 6);
        looks(x, 0, "###.###", "###.#..", "#######", "#######", "#######", "#######", "#######");
        due("again", x.fill(0), 0);
        x = drawn(".#.", "#.#", ".#.");
        due("open at corners", x.fill(0), 0);
        x.rule(1, 8);
        due("closed by sides", x.fill(0), 1);
        looks(x, 0, ".#.", "###", ".#.");
        due("none", x.fill(1), 0);
        due("picture 5", x.fill(5), UNKNOWN);
        for (int wild : WILD) {
            due("picture " + wild, x.fill(wild), UNKNOWN);
        }
    }

    private static void pair() {
        WornShapes x = new WornShapes();
        due("stamp 4", x.pair(4, 0), UNKNOWN);
        due("stamp 4", x.pair(0, 4), UNKNOWN);
        for (int i = 0; i < 8; i++) {
            due("pair", x.pair(i & 3, 3), i);
        }
        due("ninth", x.pair(0, 0), FULL);
        due("unknown goes before full", x.pair(4, 0), UNKNOWN);
        for (int wild : WILD) {
            due("hit " + wild, x.pair(wild, 0), UNKNOWN);
            due("miss " + wild, x.pair(0, wild), UNKNOWN);
        }
        due("forget", x.forget(), 7);
        due("room again", x.pair(2, 1), 7);

        x = drawn("###", "...");
        x.stamp(1, LEFT);
        x.pair(0, 1);
        due("nothing at the left", x.hits(0, 0), 1);
        x.stamp(1, DOWN);
        due("the stamp as it is when the hitting is done", x.hits(0, 0), 3);
    }

    private static void forget() {
        WornShapes x = drawn("###", "...");
        due("none", x.forget(), STATE);
        x.stamp(1, LEFT);
        x.stamp(2, DOWN);
        x.pair(0, 1);
        x.pair(0, 2);
        due("the last", x.forget(), 1);
        due("the first is left", x.hits(0, 0), 1);
        due("it is gone", x.hits(0, 1), UNKNOWN);
        due("the first", x.forget(), 0);
        due("none", x.forget(), STATE);
    }

    private static void hits() {
        WornShapes x = drawn("###.", "##..", "...#");
        x.stamp(1, RIGHT);
        x.stamp(2, 0);
        x.stamp(3, STAY | LEFT | DOWN);
        x.pair(0, 1);
        x.pair(2, 2);
        x.pair(3, 2);
        x.pair(1, 3);
        x.pair(2, 1);
        due("right ends", x.hits(0, 0), 3);
        due("all that are in it", x.hits(0, 1), 6);
        due("beyond is none for hit", x.hits(0, 2), 1);
        due("hit and missed itself", x.hits(0, 3), 0);
        due("beyond is none for miss", x.hits(0, 4), 3);
        x.rule(0, 0);
        due("no rim needed", x.hits(0, 2), 1);
        looks(x, 0, "###.", "##..", "...#");
        due("pair 5", x.hits(0, 5), UNKNOWN);
        due("picture 5", x.hits(5, 0), UNKNOWN);
        for (int wild : WILD) {
            due("picture " + wild, x.hits(wild, 0), UNKNOWN);
            due("pair " + wild, x.hits(0, wild), UNKNOWN);
        }
    }

    private static void thin() {
        WornShapes x = drawn("#####", "##...");
        due("no pair", x.thin(0), 0);
        x.stamp(1, LEFT);
        x.stamp(2, RIGHT);
        x.pair(0, 1);
        x.mix(3, 0, 0, 1);
        due("from the left", x.thin(1), 5);
        due("all gone", x.number(1), 0);
        x.pair(0, 2);
        x.mix(3, 0, 0, 1);
        due("from both sides", x.thin(1), 3);
        due("all gone", x.number(1), 0);
        x.stamp(0, STAY | RIGHT);
        due("but for right ends", x.forget(), 1);
        due("stops", x.thin(0), 4);
        looks(x, 0, "....#", ".#...");
        due("nothing more", x.thin(0), 0);
        x = drawn("##", "..");
        x.stamp(1, LEFT);
        x.stamp(2, STAY | LEFT);
        x.stamp(3, RIGHT);
        x.pair(0, 1);
        x.pair(2, 3);
        due("a pair sees what the one before it left", x.thin(0), 2);
        due("picture 5", x.thin(5), UNKNOWN);
        for (int wild : WILD) {
            due("picture " + wild, x.thin(wild), UNKNOWN);
        }
    }

    private static void deep() {
        WornShapes x = new WornShapes();
        x.field(7, 7);
        x.box(0, 0, 48, true);
        x.stamp(1, SQUARE);
        x.stamp(2, RIGHT);
        x.stamp(3, 0);
        due("with a rim", x.deep(0, 24, 1), NONE);
        x.rule(0, 0);
        due("in the middle", x.deep(0, 24, 1), 4);
        due("at the corner", x.deep(0, 0, 1), 1);
        due("next to it", x.deep(0, 8, 1), 2);
        due("one way", x.deep(0, 0, 2), 7);
        due("at its end", x.deep(0, 6, 2), 1);
        due("staying", x.deep(0, 0, 0), NONE);
        due("by nothing", x.deep(0, 0, 3), NONE);
        x.ink(0, 24, false);
        due("near a gap", x.deep(0, 16, 1), 1);
        due("a gap one way", x.deep(0, 21, 2), 3);
        due("pictures stay", x.count(0, 3), 48);
        due("no ink", x.deep(0, 24, 1), STATE);
        due("unknown goes first", x.deep(0, 24, 4), UNKNOWN);
        due("picture 5", x.deep(5, 0, 0), UNKNOWN);
        due("cell 49", x.deep(0, 49, 0), UNKNOWN);
        for (int wild : WILD) {
            due("picture " + wild, x.deep(wild, 0, 0), UNKNOWN);
            due("cell " + wild, x.deep(0, wild, 0), UNKNOWN);
            due("stamp " + wild, x.deep(0, 0, wild), UNKNOWN);
        }
    }

    private static void explains() {
        WornShapes x = drawn("...", ".#.", "...");
        draw(x, 1, "#..", ".##", "...");
        due("just one", x.explains(0, 1), 1);
        due("all by none", x.explains(2, 2), 512);
        due("nothing of none", x.explains(2, 0), 0);
        due("none by nothing", x.explains(0, 2), 1);
        due("not back", x.explains(1, 0), 0);
        draw(x, 0, "#..", "...", "...");
        due("steps beyond are free", x.explains(0, 0), 32);
        draw(x, 0, "###", "...", "...");
        draw(x, 1, "...", "###", "...");
        due("of three below two will do", x.explains(0, 1), 8 * 5);
        due("picture 5", x.explains(5, 0), UNKNOWN);
        due("picture 5", x.explains(0, 5), UNKNOWN);
        for (int wild : WILD) {
            due("from " + wild, x.explains(wild, 0), UNKNOWN);
            due("to " + wild, x.explains(0, wild), UNKNOWN);
        }
    }

    private static void least() {
        WornShapes x = drawn("...", ".#.", "...");
        draw(x, 1, "#..", ".##", "...");
        due("just one", x.least(0, 1), 1 | STAY | RIGHT);
        due("none by nothing", x.least(0, 2), 0);
        due("nothing of none", x.least(2, 0), NONE);
        due("not back", x.least(1, 0), NONE);
        draw(x, 0, "###", "...", "...");
        draw(x, 1, "...", "###", "...");
        due("one is fewer than two", x.least(0, 1), DOWN);
        draw(x, 0, "#.#", "...", "...");
        due("of two steps the least number", x.least(0, 1), 64 | DOWN);
        x = drawn("##", "#.", "..");
        draw(x, 1, "##", "##", "#.");
        due("two steps before three of a lesser number, 134", x.least(0, 1), STAY | DOWN);
        due("picture 5", x.least(5, 0), UNKNOWN);
        due("picture 5", x.least(0, 5), UNKNOWN);
        for (int wild : WILD) {
            due("from " + wild, x.least(wild, 0), UNKNOWN);
            due("to " + wild, x.least(0, wild), UNKNOWN);
        }
    }

    private static void boxes() {
        WornShapes x = drawn(".#.", "###", ".#.");
        due("of a cross", x.boxes(0, true), 5 + 4 + 2);
        due("widest of a cross", x.boxes(0, false), 2);
        draw(x, 0, "##.", "###", ".##");
        due("of two squares", x.boxes(0, true), 7 + 8 + 2 + 2);
        due("widest of two squares", x.boxes(0, false), 4);
        x.box(0, 0, 8, true);
        due("of all", x.boxes(0, true), 36);
        due("widest of all", x.boxes(0, false), 1);
        due("none", x.boxes(1, true), 0);
        due("none", x.boxes(1, false), 0);
        x.field(7, 7);
        x.box(0, 0, 48, true);
        due("of 7 by 7", x.boxes(0, true), 28 * 28);
        due("picture 5", x.boxes(5, false), UNKNOWN);
        for (int wild : WILD) {
            due("picture " + wild, x.boxes(wild, true), UNKNOWN);
        }
    }

    private static void greatest() {
        WornShapes x = drawn("#..##", "#..##", "####.", ".....");
        due("first", x.greatest(0, 0), 3);
        due("last", x.greatest(0, 1), 9);
        due("cells", x.greatest(0, 2), 4);
        draw(x, 0, "####.", "##...", "#....", "#....");
        due("first", x.greatest(0, 0), 0);
        due("last of like ones", x.greatest(0, 1), 3);
        due("cells", x.greatest(0, 2), 4);
        draw(x, 0, ".....", "..###", ".####", "..#..");
        due("first", x.greatest(0, 0), 7);
        due("last", x.greatest(0, 1), 14);
        due("cells", x.greatest(0, 2), 6);
        for (int what = 0; what < 3; what++) {
            due("no cell", x.greatest(1, what), NONE);
        }
        due("what 3", x.greatest(1, 3), OUTSIDE);
        due("what -1", x.greatest(0, -1), OUTSIDE);
        due("unknown goes first", x.greatest(5, 3), UNKNOWN);
        for (int wild : WILD) {
            due("picture " + wild, x.greatest(wild, 0), UNKNOWN);
            due("what " + wild, x.greatest(0, wild), OUTSIDE);
        }
    }

    private static void covered() {
        WornShapes x = drawn(".#.", "###", ".#.");
        due("a cross", x.covered(0), 2);
        draw(x, 0, "##.", "###", ".##");
        due("two squares", x.covered(0), 2);
        draw(x, 0, "###", "#.#", "###");
        due("a ring", x.covered(0), 4);
        due("none", x.covered(1), 0);
        // the greatest box, in the middle, is of no use here
        x = drawn("..#...", ".####.", ".####.", "...#..");
        due("not by the greatest first", x.covered(0), 3);
        x = drawn("#.#.#.#", ".#.#.#.", "#.#.#.#", ".#.#.#.", "#.#.#..", ".#.....", ".......");
        due("cells", x.count(0, 3), 4 + 3 + 4 + 3 + 3 + 1);
        due("all by themselves", x.covered(0), 18);
        x.ink(0, 48, true);
        x.ink(0, 46, true);
        due("20 cells", x.covered(0), 20);
        x.ink(0, 44, true);
        due("21 cells", x.covered(0), STATE);
        x.box(1, 0, 25, true);
        due("20 in one box", x.covered(1), 1);
        due("unknown goes first", x.covered(5), UNKNOWN);
        for (int wild : WILD) {
            due("picture " + wild, x.covered(wild), UNKNOWN);
        }
    }

    private static void alone() {
        WornShapes x = drawn(".#..", "###.", ".#.#");
        due("middle of a cross", x.alone(0, 5), 0);
        due("arm of it", x.alone(0, 1), 1);
        due("arm of it", x.alone(0, 6), 1);
        due("by itself", x.alone(0, 11), 1);
        due("no ink", x.alone(0, 0), STATE);
        x.box(0, 0, 11, true);
        due("within all", x.alone(0, 5), 1);
        due("unknown goes first", x.alone(5, 0), UNKNOWN);
        due("cell 12", x.alone(0, 12), UNKNOWN);
        for (int wild : WILD) {
            due("picture " + wild, x.alone(wild, 0), UNKNOWN);
            due("cell " + wild, x.alone(0, wild), UNKNOWN);
        }
    }

    private static void check(int which) {
        about("promise " + which);
        switch (which) {
            case 1: newObject(); break;
            case 2: field(); break;
            case 3: ink(); break;
            case 4: box(); break;
            case 5: at(); break;
            case 6: number(); break;
            case 7: stamp(); break;
            case 8: rule(); break;
            case 9: mix(); break;
            case 10: act(); break;
            case 11: would(); break;
            case 12: add(); break;
            case 13: clear(); break;
            case 14: run(); break;
            case 15: shortest(); break;
            case 16: step(); break;
            case 17: differ(); break;
            case 18: count(); break;
            case 19: piece(); break;
            case 20: keep(); break;
            case 21: fill(); break;
            case 22: pair(); break;
            case 23: forget(); break;
            case 24: hits(); break;
            case 25: thin(); break;
            case 26: deep(); break;
            case 27: explains(); break;
            case 28: least(); break;
            case 29: boxes(); break;
            case 30: greatest(); break;
            case 31: covered(); break;
            default: alone(); break;
        }
    }

    public static void main(String[] args) {
        for (int which = 1; which <= 32; which++) {
            check(which);
        }
        finish();
    }
}

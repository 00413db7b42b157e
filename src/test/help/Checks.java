/** What the tests share: they extend this class, compare answers by due, and finish by finish. */
class Checks {
    static final int UNKNOWN = -1, OUTSIDE = -2, STATE = -3, FULL = -4, NONE = -9;

    // steps as weights: where they lead to
    static final int UP_LEFT = 1, UP = 2, UP_RIGHT = 4, LEFT = 8, STAY = 16, RIGHT = 32;
    static final int DOWN_LEFT = 64, DOWN = 128, DOWN_RIGHT = 256;
    static final int CROSS = UP | LEFT | STAY | RIGHT | DOWN, SQUARE = 511;
    // acts
    static final int GROW = 0, WEAR = 10, OPEN = 20, CLOSE = 30, NOT = 40;

    private static String sentence = "";
    private static int calls = 0;
    private static int wrong = 0;

    /** Which words of the document the answers that follow are about. */
    static void about(String words) {
        sentence = words;
    }

    static void due(String call, long got, long want) {
        calls++;
        if (got != want) {
            wrong++;
            System.out.println(sentence + ": " + call + " answered " + got + ", due is " + want);
        }
    }

    static void due(String call, String got, String want) {
        calls++;
        if (!got.equals(want)) {
            wrong++;
            System.out.println(sentence + ": " + call + " left " + got + ", due is " + want);
        }
    }

    /** A picture drawn by rows: '#' is ink. The field must have that width and height. */
    static void draw(WornShapes x, int picture, String... rows) {
        int cell = 0;
        for (String row : rows) {
            for (int i = 0; i < row.length(); i++) {
                x.ink(picture, cell, row.charAt(i) == '#');
                cell++;
            }
        }
    }

    static WornShapes drawn(String... rows) {
        WornShapes x = laid(rows[0].length(), rows.length);
        draw(x, 0, rows);
        return x;
    }

    static WornShapes laid(int w, int h) {
        WornShapes x = new WornShapes();
        x.field(w, h);
        return x;
    }

    /** A picture becomes the one of that number, by two calls and one for each cell of it. */
    static void put(WornShapes x, int picture, long number) {
        x.mix(2, picture, picture, picture);
        for (int cell = 0; cell < 64; cell++) {
            if ((number >>> cell & 1L) != 0L) {
                x.ink(picture, cell, true);
            }
        }
    }

    static void looks(WornShapes x, int picture, String... rows) {
        long want = 0L;
        int cell = 0;
        for (String row : rows) {
            for (int i = 0; i < row.length(); i++) {
                want |= (row.charAt(i) == '#' ? 1L : 0L) << cell;
                cell++;
            }
        }
        due("number(" + picture + ") of " + String.join("/", rows), x.number(picture), want);
    }

    static void finish() {
        System.out.println(calls + " answers, " + wrong + " not as due");
        if (wrong != 0) {
            System.exit(1);
        }
    }
}

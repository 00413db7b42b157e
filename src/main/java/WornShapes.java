/**
 * Pictures of cells that grow and are worn by stamps, their pieces, holes and boxes. What each
 * call promises stands in the document; all rows are made with the object and used again, so no
 * call makes an object.
 */
public final class WornShapes {
    public static final int UNKNOWN = -1, OUTSIDE = -2, STATE = -3, FULL = -4, NONE = -9;

    private static final int PICTURES = 5;
    private static final int PROGRAMS = 3;
    private static final int LEAST_SIDE = 2;
    private static final int MOST_SIDE = 7;
    private static final int FIRST_SIDE = 6;
    private static final int DEEPEST = 60;
    private static final int MOST_CELLS_TO_AGREE = 12;
    private static final int MOST_CELLS_TO_COVER = 20;

    private final Field plane;
    private final long[] pictures;
    private final Stamps stamps;
    private final Program[] programs;
    private final Search search;
    private final Pieces pieces;
    private final Pairs pairs;
    private final Boxes rooms;

    public WornShapes() {
        plane = new Field(FIRST_SIDE, FIRST_SIDE);
        pictures = new long[PICTURES];
        stamps = new Stamps(plane);
        programs = new Program[PROGRAMS];
        for (int i = 0; i < PROGRAMS; i++) {
            programs[i] = new Program(stamps);
        }
        search = new Search(stamps);
        pieces = new Pieces(plane);
        pairs = new Pairs(plane, stamps);
        rooms = new Boxes(plane);
    }

    // ---- pictures, stamps

    public int field(int w, int h) {
        if (!isSide(w) || !isSide(h)) {
            return OUTSIDE;
        }
        plane.lay(w, h);
        for (int i = 0; i < PICTURES; i++) {
            pictures[i] = 0L;
        }
        return plane.cells;
    }

    public int ink(int picture, int cell, boolean is) {
        if (!isPicture(picture) || !plane.isCell(cell)) {
            return UNKNOWN;
        }
        int before = bitAt(picture, cell);
        put(picture, 1L << cell, is);
        return before;
    }

    public int box(int picture, int cell, int other, boolean is) {
        if (!isPicture(picture) || !plane.isCell(cell) || !plane.isCell(other)) {
            return UNKNOWN;
        }
        long within = plane.rectangle(cell, other);
        if (within == 0L) {
            return OUTSIDE;
        }
        put(picture, within, is);
        return Long.bitCount(pictures[picture]);
    }

    public int at(int picture, int cell) {
        if (!isPicture(picture) || !plane.isCell(cell)) {
            return UNKNOWN;
        }
        return bitAt(picture, cell);
    }

    public long number(int picture) {
        return isPicture(picture) ? pictures[picture] : UNKNOWN;
    }

    public int stamp(int stamp, int steps) {
        if (!Stamps.isStamp(stamp)) {
            return UNKNOWN;
        }
        if (steps < 0 || steps >= Stamps.ALL_SETS) {
            return OUTSIDE;
        }
        int before = stamps.steps[stamp];
        stamps.steps[stamp] = steps;
        return before;
    }

    public int rule(int what, int v) {
        if (what == 0 && (v == 0 || v == 1)) {
            int before = stamps.rim ? 1 : 0;
            stamps.rim = v == 1;
            return before;
        }
        if (what == 1 && (v == Pieces.BY_SIDES || v == Pieces.BY_CORNERS)) {
            int before = pieces.join;
            pieces.join = v;
            return before;
        }
        return OUTSIDE;
    }

    public int mix(int what, int a, int b, int to) {
        if (what < 0 || what > 3) {
            return OUTSIDE;
        }
        if (!isPicture(a) || !isPicture(to)) {
            return UNKNOWN;
        }
        if (what == 3) {
            return replace(to, pictures[a]);
        }
        if (!isPicture(b)) {
            return UNKNOWN;
        }
        return replace(to, mixed(what, pictures[a], pictures[b]));
    }

    // ---- acts

    public int act(int picture, int act) {
        if (!isPicture(picture)) {
            return UNKNOWN;
        }
        if (!Stamps.isAct(act)) {
            return OUTSIDE;
        }
        return replace(picture, stamps.made(pictures[picture], act));
    }

    public int would(int picture, int act) {
        if (!isPicture(picture)) {
            return UNKNOWN;
        }
        if (!Stamps.isAct(act)) {
            return OUTSIDE;
        }
        return Long.bitCount(pictures[picture] ^ stamps.made(pictures[picture], act));
    }

    public int add(int program, int act) {
        if (!isProgram(program)) {
            return UNKNOWN;
        }
        if (!Stamps.isAct(act)) {
            return OUTSIDE;
        }
        return programs[program].append(act) ? programs[program].size : FULL;
    }

    public int clear(int program) {
        if (!isProgram(program)) {
            return UNKNOWN;
        }
        int before = programs[program].size;
        programs[program].size = 0;
        return before;
    }

    public int run(int program, int picture) {
        if (!isProgram(program) || !isPicture(picture)) {
            return UNKNOWN;
        }
        return replace(picture, programs[program].madeOf(pictures[picture]));
    }

    public int shortest(int from, int to) {
        if (!isPicture(from) || !isPicture(to)) {
            return UNKNOWN;
        }
        return search.find(pictures[from], pictures[to]) ? search.length : NONE;
    }

    public int step(int from, int to, int i) {
        if (!isPicture(from) || !isPicture(to)) {
            return UNKNOWN;
        }
        // no way is longer than the search goes, so such an i needs no search
        if (i < 0 || i >= Search.LONGEST || !search.find(pictures[from], pictures[to])) {
            return NONE;
        }
        return i < search.length ? search.way[i] : NONE;
    }

    public int differ(int a, int b) {
        if (!isProgram(a) || !isProgram(b)) {
            return UNKNOWN;
        }
        if (plane.cells > MOST_CELLS_TO_AGREE) {
            return STATE;
        }
        int all = 1 << plane.cells;
        for (int picture = 0; picture < all; picture++) {
            if (programs[a].madeOf(picture) != programs[b].madeOf(picture)) {
                return picture;
            }
        }
        return NONE;
    }

    // ---- pieces

    public int count(int picture, int what) {
        if (!isPicture(picture)) {
            return UNKNOWN;
        }
        switch (what) {
            case 0:
                return pieces.howMany(pictures[picture]);
            case 1:
                return pieces.howManyHoles(pictures[picture]);
            case 2:
                return plane.sidesOf(pictures[picture]);
            case 3:
                return Long.bitCount(pictures[picture]);
            default:
                return OUTSIDE;
        }
    }

    public int piece(int picture, int cell) {
        if (!isPicture(picture) || !plane.isCell(cell)) {
            return UNKNOWN;
        }
        if (bitAt(picture, cell) == 0) {
            return STATE;
        }
        return Long.bitCount(pieces.around(cell, pictures[picture]));
    }

    public int keep(int picture, int cell) {
        if (!isPicture(picture) || !plane.isCell(cell)) {
            return UNKNOWN;
        }
        if (bitAt(picture, cell) == 0) {
            return STATE;
        }
        return replace(picture, pieces.around(cell, pictures[picture]));
    }

    public int fill(int picture) {
        if (!isPicture(picture)) {
            return UNKNOWN;
        }
        long holes = pieces.holesOf(pictures[picture]);
        put(picture, holes, true);
        return Long.bitCount(holes);
    }

    // ---- thinned, deep

    public int pair(int hit, int miss) {
        if (!Stamps.isStamp(hit) || !Stamps.isStamp(miss)) {
            return UNKNOWN;
        }
        return pairs.append(hit, miss) ? pairs.size - 1 : FULL;
    }

    public int forget() {
        if (pairs.size == 0) {
            return STATE;
        }
        pairs.size--;
        return pairs.size;
    }

    public int hits(int picture, int pair) {
        if (!isPicture(picture) || pair < 0 || pair >= pairs.size) {
            return UNKNOWN;
        }
        return Long.bitCount(pairs.hitIn(pictures[picture], pair));
    }

    public int thin(int picture) {
        if (!isPicture(picture)) {
            return UNKNOWN;
        }
        int rounds = 0;
        // each round but the last takes a cell away at least
        for (int i = 0; i < plane.cells; i++) {
            long thinner = pairs.afterRound(pictures[picture]);
            if (thinner == pictures[picture]) {
                break;
            }
            pictures[picture] = thinner;
            rounds++;
        }
        return rounds;
    }

    public int deep(int picture, int cell, int stamp) {
        if (!isPicture(picture) || !plane.isCell(cell) || !Stamps.isStamp(stamp)) {
            return UNKNOWN;
        }
        if (bitAt(picture, cell) == 0) {
            return STATE;
        }
        long left = pictures[picture];
        for (int times = 1; times <= DEEPEST; times++) {
            left = stamps.wornBy(left, stamp);
            if ((left >>> cell & 1L) == 0L) {
                return times;
            }
        }
        return NONE;
    }

    // ---- explained, boxes

    public int explains(int from, int to) {
        if (!isPicture(from) || !isPicture(to)) {
            return UNKNOWN;
        }
        int found = 0;
        for (int steps = 0; steps < Stamps.ALL_SETS; steps++) {
            if (plane.grown(pictures[from], steps) == pictures[to]) {
                found++;
            }
        }
        return found;
    }

    public int least(int from, int to) {
        if (!isPicture(from) || !isPicture(to)) {
            return UNKNOWN;
        }
        int best = NONE;
        int fewest = Field.STEPS + 1;
        for (int steps = 0; steps < Stamps.ALL_SETS; steps++) {
            if (Integer.bitCount(steps) < fewest
                    && plane.grown(pictures[from], steps) == pictures[to]) {
                best = steps;
                fewest = Integer.bitCount(steps);
            }
        }
        return best;
    }

    public int boxes(int picture, boolean all) {
        if (!isPicture(picture)) {
            return UNKNOWN;
        }
        return rooms.howMany(pictures[picture], all);
    }

    public int greatest(int picture, int what) {
        if (!isPicture(picture)) {
            return UNKNOWN;
        }
        if (what < 0 || what > 2) {
            return OUTSIDE;
        }
        if (!rooms.findGreatest(pictures[picture])) {
            return NONE;
        }
        if (what == 0) {
            return rooms.first;
        }
        return what == 1 ? rooms.last : rooms.area;
    }

    public int covered(int picture) {
        if (!isPicture(picture)) {
            return UNKNOWN;
        }
        if (Long.bitCount(pictures[picture]) > MOST_CELLS_TO_COVER) {
            return STATE;
        }
        return rooms.fewestOver(pictures[picture]);
    }

    public int alone(int picture, int cell) {
        if (!isPicture(picture) || !plane.isCell(cell)) {
            return UNKNOWN;
        }
        if (bitAt(picture, cell) == 0) {
            return STATE;
        }
        return rooms.howManyWidestAt(pictures[picture], cell) == 1 ? 1 : 0;
    }

    // ---- what the calls share

    private static boolean isSide(int length) {
        return length >= LEAST_SIDE && length <= MOST_SIDE;
    }

    private static boolean isPicture(int picture) {
        return picture >= 0 && picture < PICTURES;
    }

    private static boolean isProgram(int program) {
        return program >= 0 && program < PROGRAMS;
    }

    private static long mixed(int what, long a, long b) {
        if (what == 0) {
            return a & b;
        }
        return what == 1 ? a | b : a & ~b;
    }

    private int bitAt(int picture, int cell) {
        return (int) (pictures[picture] >>> cell & 1L);
    }

    private void put(int picture, long which, boolean is) {
        if (is) {
            pictures[picture] |= which;
        } else {
            pictures[picture] &= ~which;
        }
    }

    private int replace(int picture, long by) {
        pictures[picture] = by;
        return Long.bitCount(by);
    }

    /** The plane of cells. A set of cells is a long in which cell c weighs two to the power c. */
    private static final class Field {
        static final int STEPS = 9;
        private static final int MOST_CELLS = MOST_SIDE * MOST_SIDE;
        private static final int[] SIDE_STEPS = {1, 3, 5, 7};

        private int width;
        int cells;
        long whole;
        long border;
        /** By how much a step raises a cell's number. */
        private final int[] raises = new int[STEPS];
        /** The cells from which a step does not lead beyond the field. */
        private final long[] starts = new long[STEPS];
        private final int[] columns = new int[MOST_CELLS];
        private final int[] rows = new int[MOST_CELLS];

        Field(int w, int h) {
            lay(w, h);
        }

        void lay(int w, int h) {
            width = w;
            cells = w * h;
            whole = (1L << cells) - 1L;
            int cell = 0;
            for (int y = 0; y < h; y++) {
                for (int x = 0; x < w; x++) {
                    columns[cell] = x;
                    rows[cell] = y;
                    cell++;
                }
            }
            border = 0L;
            for (int step = 0; step < STEPS; step++) {
                layStep(step, h);
                border |= whole & ~starts[step];
            }
        }

        private void layStep(int step, int h) {
            int dy = step / 3 - 1;
            int dx = step % 3 - 1;
            raises[step] = dy * width + dx;
            long from = 0L;
            for (int cell = 0; cell < cells; cell++) {
                int x = columns[cell] + dx;
                int y = rows[cell] + dy;
                if (x >= 0 && x < width && y >= 0 && y < h) {
                    from |= 1L << cell;
                }
            }
            starts[step] = from;
        }

        boolean isCell(int cell) {
            return cell >= 0 && cell < cells;
        }

        /** All cells that the step leads to from cells of the set. */
        long ahead(long set, int step) {
            int by = raises[step];
            long from = set & starts[step];
            return by >= 0 ? from << by : from >>> -by;
        }

        /** All cells from which the step leads to a cell of the set. */
        long behind(long set, int step) {
            int by = raises[step];
            return (by >= 0 ? set >>> by : set << -by) & starts[step];
        }

        long grown(long set, int steps) {
            long all = 0L;
            for (int step = 0; step < STEPS; step++) {
                if ((steps >> step & 1) != 0) {
                    all |= ahead(set, step);
                }
            }
            return all;
        }

        long worn(long set, int steps, boolean rim) {
            long all = whole;
            for (int step = 0; step < STEPS; step++) {
                if ((steps >> step & 1) != 0) {
                    all &= behind(set, step) | (rim ? ~starts[step] : 0L);
                }
            }
            return all;
        }

        int sidesOf(long set) {
            int sides = 0;
            for (int step : SIDE_STEPS) {
                sides += Long.bitCount(set & ~behind(set, step));
            }
            return sides;
        }

        /** The cells between two corners; none, if the other one lies before in x or y. */
        long rectangle(int corner, int other) {
            int wide = columns[other] - columns[corner] + 1;
            int high = rows[other] - rows[corner] + 1;
            if (wide <= 0 || high <= 0) {
                return 0L;
            }
            long row = ((1L << wide) - 1L) << corner;
            long all = 0L;
            for (int y = 0; y < high; y++) {
                all |= row << (y * width);
            }
            return all;
        }

        /** Whether a rectangle in the set can be made one row or column wider within the set. */
        boolean canWiden(long rectangle, long set) {
            for (int step : SIDE_STEPS) {
                boolean fits = (rectangle & ~starts[step]) == 0L;
                if (fits && (ahead(rectangle, step) & ~set) == 0L) {
                    return true;
                }
            }
            return false;
        }
    }

    /** The stamps and the rim, and the acts that are done with them. */
    private static final class Stamps {
        static final int ALL_SETS = 512;
        static final int NOT = 40;
        private static final int STAMPS = 4;
        private static final int STANDING = 16;

        private final Field plane;
        final int[] steps = {STANDING, STANDING, STANDING, STANDING};
        boolean rim = true;

        Stamps(Field plane) {
            this.plane = plane;
        }

        static boolean isStamp(int stamp) {
            return stamp >= 0 && stamp < STAMPS;
        }

        static boolean isAct(int act) {
            return act == NOT || act >= 0 && act < NOT && isStamp(act % 10);
        }

        long wornBy(long set, int stamp) {
            return plane.worn(set, steps[stamp], rim);
        }

        private long grownBy(long set, int stamp) {
            return plane.grown(set, steps[stamp]);
        }

        /** What a true act makes of a set. */
        long made(long set, int act) {
            int stamp = act % 10;
            switch (act / 10) {
                case 0:
                    return grownBy(set, stamp);
                case 1:
                    return wornBy(set, stamp);
                case 2:
                    return grownBy(wornBy(set, stamp), stamp);
                case 3:
                    return wornBy(grownBy(set, stamp), stamp);
                default:
                    return plane.whole & ~set;
            }
        }
    }

    private static final class Program {
        private static final int MOST = 8;

        private final Stamps stamps;
        private final int[] acts = new int[MOST];
        int size = 0;

        Program(Stamps stamps) {
            this.stamps = stamps;
        }

        boolean append(int act) {
            if (size >= MOST) {
                return false;
            }
            acts[size] = act;
            size++;
            return true;
        }

        long madeOf(long set) {
            long now = set;
            for (int i = 0; i < size; i++) {
                now = stamps.made(now, acts[i]);
            }
            return now;
        }
    }

    /** The search for the shortest way of acts from one set to another. */
    private static final class Search {
        static final int LONGEST = 4;
        private static final int[] ACTS = {0, 1, 2, 3, 10, 11, 12, 13, 40};

        private final Stamps stamps;
        final int[] way = new int[LONGEST];
        int length = 0;

        Search(Stamps stamps) {
            this.stamps = stamps;
        }

        /** Whether there is a way; if so, way and length tell it. */
        boolean find(long from, long to) {
            for (int tried = 0; tried <= LONGEST; tried++) {
                length = tried;
                if (leads(this, from, to, 0)) {
                    return true;
                }
            }
            return false;
        }

        private static boolean leads(Search search, long now, long to, int depth) {
            if (depth >= search.length || depth >= LONGEST) {
                return now == to;
            }
            // in the order of their numbers, so that the first way found is the first by numbers
            for (int act : ACTS) {
                search.way[depth] = act;
                if (leads(search, search.stamps.made(now, act), to, depth + 1)) {
                    return true;
                }
            }
            return false;
        }
    }

    /** What hangs together, and the holes in it. */
    private static final class Pieces {
        static final int BY_SIDES = 4;
        static final int BY_CORNERS = 8;
        private static final int SIDES_AND_SELF = 186;
        private static final int CORNERS_AND_SELF = 511;

        private final Field plane;
        int join = BY_SIDES;

        Pieces(Field plane) {
            this.plane = plane;
        }

        long around(int cell, long set) {
            return spread(1L << cell, set, join);
        }

        int howMany(long set) {
            return howManyBy(join, set);
        }

        int howManyHoles(long set) {
            return howManyBy(otherJoin(), holesOf(set));
        }

        /** All cells beyond the set that do not hang together with the border. */
        long holesOf(long set) {
            long others = plane.whole & ~set;
            return others & ~spread(others & plane.border, others, otherJoin());
        }

        private int howManyBy(int by, long set) {
            long left = set;
            int found = 0;
            for (int cell = 0; cell < plane.cells; cell++) {
                if ((left >>> cell & 1L) != 0L) {
                    left &= ~spread(1L << cell, left, by);
                    found++;
                }
            }
            return found;
        }

        private int otherJoin() {
            return join == BY_SIDES ? BY_CORNERS : BY_SIDES;
        }

        /** All cells of the set that hang together with the seeds, which lie in it. */
        private long spread(long seeds, long set, int by) {
            int near = by == BY_SIDES ? SIDES_AND_SELF : CORNERS_AND_SELF;
            long reached = seeds;
            for (int i = 0; i < plane.cells; i++) {
                long next = plane.grown(reached, near) & set;
                if (next == reached) {
                    break;
                }
                reached = next;
            }
            return reached;
        }
    }

    /** Pairs name their stamps by number, so that the stamps count as they are when cells are hit. */
    private static final class Pairs {
        private static final int MOST = 8;

        private final Field plane;
        private final Stamps stamps;
        private final int[] hit = new int[MOST];
        private final int[] miss = new int[MOST];
        int size = 0;

        Pairs(Field plane, Stamps stamps) {
            this.plane = plane;
            this.stamps = stamps;
        }

        boolean append(int hitStamp, int missStamp) {
            if (size >= MOST) {
                return false;
            }
            hit[size] = hitStamp;
            miss[size] = missStamp;
            size++;
            return true;
        }

        long hitIn(long set, int pair) {
            int wanted = stamps.steps[hit[pair]];
            int unwanted = stamps.steps[miss[pair]];
            long all = set;
            for (int step = 0; step < Field.STEPS; step++) {
                long behind = plane.behind(set, step);
                if ((wanted >> step & 1) != 0) {
                    all &= behind;
                }
                if ((unwanted >> step & 1) != 0) {
                    all &= ~behind;
                }
            }
            return all;
        }

        long afterRound(long set) {
            long left = set;
            for (int pair = 0; pair < size; pair++) {
                left &= ~hitIn(left, pair);
            }
            return left;
        }
    }

    /** The boxes within a set; the widest are those that no other box contains. */
    private static final class Boxes {
        // a box is told by its first and its last cell, both of at most 20 cells
        private static final int MOST_WIDEST = MOST_CELLS_TO_COVER * (MOST_CELLS_TO_COVER + 1) / 2;

        private final Field plane;
        private final long[] widest = new long[MOST_WIDEST];
        int size = 0;
        int first = 0;
        int last = 0;
        int area = 0;

        Boxes(Field plane) {
            this.plane = plane;
        }

        /** The box between two cells; none, if there is none in the set. */
        private long between(int from, int to, long set) {
            if (((set >>> from) & (set >>> to) & 1L) == 0L) {
                return 0L;
            }
            long cells = plane.rectangle(from, to);
            return (cells & ~set) == 0L ? cells : 0L;
        }

        int howMany(long set, boolean all) {
            int found = 0;
            for (int from = 0; from < plane.cells; from++) {
                for (int to = from; to < plane.cells; to++) {
                    long cells = between(from, to, set);
                    if (cells != 0L && (all || !plane.canWiden(cells, set))) {
                        found++;
                    }
                }
            }
            return found;
        }

        int howManyWidestAt(long set, int cell) {
            int found = 0;
            for (int from = 0; from <= cell; from++) {
                for (int to = cell; to < plane.cells; to++) {
                    long cells = between(from, to, set);
                    if ((cells >>> cell & 1L) != 0L && !plane.canWiden(cells, set)) {
                        found++;
                    }
                }
            }
            return found;
        }

        /** Whether there is a greatest box; if so, first, last and area tell it. */
        boolean findGreatest(long set) {
            area = 0;
            for (int from = 0; from < plane.cells; from++) {
                for (int to = from; to < plane.cells; to++) {
                    int many = Long.bitCount(between(from, to, set));
                    if (many > area) {
                        first = from;
                        last = to;
                        area = many;
                    }
                }
            }
            return area > 0;
        }

        /** The fewest boxes that have all cells of a set of at most 20 together. */
        int fewestOver(long set) {
            gatherWidest(set);
            // one box a cell is always enough
            return fewest(this, set, 0, Long.bitCount(set));
        }

        private void gatherWidest(long set) {
            size = 0;
            for (int from = 0; from < plane.cells; from++) {
                for (int to = from; to < plane.cells; to++) {
                    long cells = between(from, to, set);
                    if (cells != 0L && !plane.canWiden(cells, set) && size < MOST_WIDEST) {
                        widest[size] = cells;
                        size++;
                    }
                }
            }
        }

        /** The fewest boxes for what is open behind those used, or best, if that is not more. */
        private static int fewest(Boxes boxes, long open, int used, int best) {
            if (open == 0L) {
                return Math.min(used, best);
            }
            if (used + 1 >= best) {
                return best;
            }
            int cell = boxes.hardest(open);
            int least = best;
            for (int i = 0; i < boxes.size; i++) {
                if ((boxes.widest[i] >>> cell & 1L) != 0L) {
                    least = fewest(boxes, open & ~boxes.widest[i], used + 1, least);
                }
            }
            return least;
        }

        /** The open cell that the fewest boxes have: there the search branches least. */
        private int hardest(long open) {
            int found = 0;
            int fewestBoxes = MOST_WIDEST + 1;
            for (int cell = 0; cell < plane.cells; cell++) {
                if ((open >>> cell & 1L) != 0L) {
                    int having = howManyHave(cell);
                    if (having < fewestBoxes) {
                        fewestBoxes = having;
                        found = cell;
                    }
                }
            }
            return found;
        }

        private int howManyHave(int cell) {
            int having = 0;
            for (int i = 0; i < size; i++) {
                having += (int) (widest[i] >>> cell & 1L);
            }
            return having;
        }
    }
}

import java.util.Arrays;

/** Strings round pegs: three slots for grids of cells, whose strands can be followed, counted and changed. */
public final class PegStrings {
    public static final int NONE = -1;

    private static final int REFUSED = -2;
    private static final int FAULTY = -4;
    private static final int TOO_MANY = -5;
    private static final int UNFIT = -6;
    private static final int NO_NUMBER = -1000;
    private static final long NO_TERM = -1000000000L;

    private static final int SLOTS = 3;
    private static final int MOST_ACTS = 10;
    private static final int MOST_BYTES = 400;
    private static final int MOST_PLAIN = 9999;

    private static final int MOST_SPAN = 4;
    private static final int MOST_CELLS = 16;
    private static final int MOST_EDGES = 24;
    private static final int MOST_CORNERS = 64;
    private static final int MOST_PASSES = 48;
    /** A crossing and a strand that is never under have one arc each. */
    private static final int MOST_ARCS = 40;
    private static final int MOST_SETTLED = 12;
    /** A loop has four corners at least. */
    private static final int MOST_LOOPS = 16;
    private static final int MOST_POWER = 100;

    private static final int CROSS = 0;
    private static final int TURNED = 1;
    private static final int WALL = 2;
    private static final int GAP = 3;

    private static final int RIGHT_SIDE = 1;
    private static final int BELOW_SIDE = 2;

    private final Grid[] grids = new Grid[SLOTS];
    /** What a slot is about to become. */
    private final Grid next = new Grid();
    /** A grid for what lies between, as half of a turn. */
    private final Grid spare = new Grid();
    private final Trace trace = new Trace();
    private final Settings ways = new Settings();
    private final Colouring colouring = new Colouring();
    private final Forest forest = new Forest();
    private final Tape tape = new Tape();
    private final Out out = new Out();
    private final Acts acts = new Acts();

    public PegStrings() {
        for (int i = 0; i < SLOTS; i++) {
            grids[i] = new Grid();
        }
    }

    // ---- the tape ----

    public int feed(int a, int b, int c, int d, int e) {
        if (!tape.hasRoom(20)) {
            return NONE;
        }
        tape.add(a);
        tape.add(b);
        tape.add(c);
        tape.add(d);
        tape.add(e);
        return tape.size();
    }

    public int end(int n) {
        return tape.cut(n) ? n : NONE;
    }

    public int told(int slot) {
        if (!isSlot(slot)) {
            return REFUSED;
        }
        if (!tape.readInto(next)) {
            return FAULTY;
        }
        become(slot);
        return strandsOf(slot);
    }

    public int fault(int what) {
        if (what == 0) {
            return tape.faultNumber();
        }
        return what == 1 ? tape.faultPlace() : NONE;
    }

    public int count(int what) {
        switch (what) {
            case 0:
                return slotsInUse();
            case 1:
                return acts.size();
            case 2:
                return tape.size();
            case 3:
                return out.size();
            default:
                return NONE;
        }
    }

    // ---- a grid and its edges ----

    public int look(int slot, int what) {
        Grid grid = gridIn(slot);
        if (grid == null) {
            return REFUSED;
        }
        switch (what) {
            case 0:
                return grid.rows();
            case 1:
                return grid.columns();
            case 2:
                return grid.edges();
            case 3:
                return grid.crosses();
            case 4:
                return grid.howMany(TURNED);
            case 5:
                return grid.howMany(WALL);
            case 6:
                return grid.howMany(GAP);
            case 7:
                return strandsOf(slot);
            case 8:
                return traceOf(grid).pieces();
            default:
                return REFUSED;
        }
    }

    public int edge(int slot, int e) {
        Grid grid = gridIn(slot);
        return grid == null || !grid.hasEdge(e) ? REFUSED : grid.kindOf(e);
    }

    public int name(int slot, int e, int what) {
        Grid grid = gridIn(slot);
        if (grid == null || !grid.hasEdge(e) || !isBit(what)) {
            return REFUSED;
        }
        return what == 0 ? grid.cellOf(e) : grid.belowOf(e);
    }

    public int edgeOf(int slot, int cell, int below) {
        Grid grid = gridIn(slot);
        if (grid == null || !grid.hasCell(cell) || !isBit(below)) {
            return REFUSED;
        }
        return grid.edgeAt(cell, below);
    }

    // ---- strands ----

    public int strand(int slot, int cell, int corner) {
        Trace followed = traceOfCorner(slot, cell, corner);
        return followed == null ? REFUSED : followed.strandAt(4 * cell + corner);
    }

    public int place(int slot, int cell, int corner) {
        Trace followed = traceOfCorner(slot, cell, corner);
        return followed == null ? REFUSED : followed.placeAt(4 * cell + corner);
    }

    public int walk(int slot, int strand, int i) {
        Trace followed = traceOfStrand(slot, strand);
        return followed == null || i < 0 ? REFUSED : followed.cornerOn(strand, i);
    }

    public int length(int slot, int strand) {
        Trace followed = traceOfStrand(slot, strand);
        return followed == null ? REFUSED : followed.cornersOn(strand);
    }

    public int meets(int slot, int a, int b) {
        Trace followed = traceOfStrand(slot, a);
        if (followed == null || !followed.hasStrand(b)) {
            return REFUSED;
        }
        int found = followed.crossesOver(a, b);
        return a == b ? found : found + followed.crossesOver(b, a);
    }

    public int over(int slot, int a, int b) {
        Trace followed = traceOfStrand(slot, a);
        return followed == null || !followed.hasStrand(b) ? REFUSED : followed.crossesOver(a, b);
    }

    public int sign(int slot, int e) {
        Grid grid = gridIn(slot);
        if (grid == null || !grid.hasEdge(e)) {
            return REFUSED;
        }
        int signed = traceOf(grid).signOf(e);
        if (signed == 0) {
            return NONE;
        }
        return signed > 0 ? 1 : 0;
    }

    public int twist(int slot, int strand) {
        Trace followed = traceOfStrand(slot, strand);
        return followed == null ? NO_NUMBER : followed.signsOver(strand, strand);
    }

    public int link(int slot, int a, int b) {
        Trace followed = traceOfStrand(slot, a);
        if (followed == null || !followed.hasStrand(b) || a == b) {
            return NO_NUMBER;
        }
        return (followed.signsOver(a, b) + followed.signsOver(b, a)) / 2;
    }

    public int alternates(int slot, int strand) {
        Trace followed = traceOfStrand(slot, strand);
        if (followed == null) {
            return REFUSED;
        }
        return followed.goesInTurn(strand) ? 1 : 0;
    }

    public int passed(int slot, int strand, int i) {
        Trace followed = traceOfStrand(slot, strand);
        return followed == null || i < 0 ? REFUSED : followed.edgePassed(strand, i);
    }

    public int interlaced(int slot, int e, int f) {
        Grid grid = gridIn(slot);
        if (grid == null || !grid.hasEdge(e) || !grid.hasEdge(f)) {
            return REFUSED;
        }
        Trace followed = traceOf(grid);
        int owner = followed.ownerOf(e);
        if (e == f || owner == NONE || owner != followed.ownerOf(f)) {
            return NONE;
        }
        return followed.areInTurn(e, f) ? 1 : 0;
    }

    public int visits(int slot, int strand) {
        Trace followed = traceOfStrand(slot, strand);
        return followed == null ? REFUSED : followed.cellsOn(strand);
    }

    public int winds(int slot, int strand, int cell) {
        Trace followed = traceOfStrand(slot, strand);
        if (followed == null || !hasCell(slot, cell)) {
            return NO_NUMBER;
        }
        return followed.turnsRound(strand, cell);
    }

    public int paint(int slot, int cell, int corner) {
        Trace followed = traceOfCorner(slot, cell, corner);
        return followed == null ? REFUSED : followed.paintAt(4 * cell + corner);
    }

    public int painted(int slot, int column, int k) {
        Grid grid = gridIn(slot);
        if (grid == null || !isBit(column)) {
            return REFUSED;
        }
        if (k < 0 || k >= (column == 0 ? grid.rows() : grid.columns())) {
            return REFUSED;
        }
        Trace followed = traceOf(grid);
        int found = 0;
        for (int cell = 0; cell < grid.cells(); cell++) {
            if ((column == 0 ? grid.rowOf(cell) : grid.columnOf(cell)) == k) {
                found += followed.paintIn(cell);
            }
        }
        return found;
    }

    // ---- all ways to undo crosses ----

    public int loops(int slot, long set) {
        Grid grid = gridIn(slot);
        if (grid == null || (set >>> grid.crosses()) != 0) {
            return REFUSED;
        }
        next.copy(grid);
        int bit = 0;
        for (int e = 0; e < grid.edges(); e++) {
            if (grid.isCross(e)) {
                next.change(e, ((set >>> bit) & 1) == 1 ? GAP : WALL);
                bit++;
            }
        }
        return traceOf(next).strands();
    }

    public int settings(int slot, int n) {
        Grid grid = gridIn(slot);
        if (grid == null || n < 0) {
            return REFUSED;
        }
        if (grid.crosses() > MOST_SETTLED) {
            return TOO_MANY;
        }
        ways.go(grid);
        return ways.waysWith(n);
    }

    public long bracket(int slot, int k) {
        Grid grid = gridIn(slot);
        if (grid == null || !hasTerm(grid, k)) {
            return NO_TERM;
        }
        ways.go(grid);
        return ways.term(k);
    }

    public long smooth(int slot, int k) {
        Grid grid = gridIn(slot);
        if (grid == null || !hasTerm(grid, k)) {
            return NO_TERM;
        }
        ways.go(grid);
        int signs = traceOf(grid).signsOfAll();
        long term = ways.term(k + 3 * signs);
        return (signs & 1) == 0 ? term : -term;
    }

    public long trees(int slot) {
        Grid grid = gridIn(slot);
        return grid == null ? REFUSED : forest.grow(grid);
    }

    public int colours(int slot, int p) {
        Grid grid = gridIn(slot);
        if (grid == null || !isSmallPrime(p)) {
            return REFUSED;
        }
        return colouring.freedom(traceOf(grid), p);
    }

    // ---- one line of many, kinks eased ----

    public int needs(int slot) {
        Grid grid = gridIn(slot);
        if (grid == null) {
            return REFUSED;
        }
        // Undoing a cross joins two strands at most, and never two pieces.
        Trace followed = traceOf(grid);
        return followed.pieces() == 1 ? followed.strands() - 1 : NONE;
    }

    public int oneLine(int slot) {
        Grid grid = gridIn(slot);
        if (grid == null) {
            return REFUSED;
        }
        next.copy(grid);
        int changed = 0;
        for (int i = 0; i < MOST_EDGES; i++) {
            int e = traceOf(next).firstOfTwo();
            if (e == NONE) {
                break;
            }
            next.change(e, WALL);
            changed++;
        }
        if (traceOf(next).strands() > 1) {
            return UNFIT;
        }
        become(slot);
        return changed;
    }

    public int eases(int slot) {
        Grid grid = gridIn(slot);
        if (grid == null) {
            return REFUSED;
        }
        next.copy(grid);
        int due = traceOf(next).strands();
        int changed = 0;
        for (int i = 0; i < MOST_EDGES; i++) {
            int e = traceOf(next).firstKink();
            if (e == NONE) {
                break;
            }
            next.change(e, WALL);
            if (traceOf(next).strands() != due) {
                next.change(e, GAP);
            }
            changed++;
        }
        become(slot);
        return changed;
    }

    // ---- edges changed ----

    public int sets(int slot, int e, int how) {
        Grid grid = gridIn(slot);
        if (grid == null || !grid.hasEdge(e) || !isKind(how)) {
            return REFUSED;
        }
        int before = grid.kindOf(e);
        next.copy(grid);
        next.change(e, how);
        become(slot);
        return before;
    }

    public int all(int slot, int how, int then) {
        Grid grid = gridIn(slot);
        if (grid == null || !isKind(how) || !isKind(then)) {
            return REFUSED;
        }
        if (how == then) {
            return 0;
        }
        next.copy(grid);
        int changed = 0;
        for (int e = 0; e < grid.edges(); e++) {
            if (grid.kindOf(e) == how) {
                next.change(e, then);
                changed++;
            }
        }
        become(slot);
        return changed;
    }

    public int under(int slot) {
        Grid grid = gridIn(slot);
        if (grid == null) {
            return REFUSED;
        }
        next.copy(grid);
        for (int e = 0; e < grid.edges(); e++) {
            next.change(e, turnedOver(grid.kindOf(e)));
        }
        become(slot);
        return grid.crosses();
    }

    // ---- grids turned, mirrored, laid beside one another ----

    public int quarter(int slot) {
        Grid grid = gridIn(slot);
        if (grid == null) {
            return REFUSED;
        }
        next.copyTurned(grid);
        become(slot);
        return grid.rows();
    }

    public int mirror(int slot) {
        Grid grid = gridIn(slot);
        if (grid == null) {
            return REFUSED;
        }
        next.copyMirrored(grid);
        become(slot);
        return strandsOf(slot);
    }

    public int beside(int slot, int other, int how, int to) {
        Grid left = gridIn(slot);
        Grid right = gridIn(other);
        if (left == null || right == null || !isKind(how) || !isSlot(to)) {
            return REFUSED;
        }
        int wide = left.columns() + right.columns();
        if (wide > MOST_SPAN) {
            return TOO_MANY;
        }
        if (left.rows() != right.rows()) {
            return UNFIT;
        }
        next.lay(left.rows(), wide);
        next.paste(left, 0);
        next.paste(right, left.columns());
        for (int row = 0; row < next.rows(); row++) {
            next.change(next.edgeAt(row * wide + left.columns() - 1, 0), how);
        }
        become(to);
        return wide;
    }

    public int alike(int slot, int other) {
        Grid grid = gridIn(slot);
        Grid model = gridIn(other);
        if (grid == null || model == null) {
            return REFUSED;
        }
        next.copy(grid);
        for (int turn = 0; turn < 8; turn++) {
            if (next.isLike(model)) {
                return 1;
            }
            if (turn == 3) {
                spare.copyMirrored(next);
            } else {
                spare.copyTurned(next);
            }
            next.copy(spare);
        }
        return 0;
    }

    public int same(int slot, int what) {
        Grid grid = gridIn(slot);
        if (grid == null || what < 0 || what > 3) {
            return REFUSED;
        }
        if (what == 2) {
            next.copyMirrored(grid);
            return next.isLike(grid) ? 1 : 0;
        }
        next.copyTurned(grid);
        if (what != 0) {
            spare.copyTurned(next);
            next.copy(spare);
        }
        if (what == 3) {
            next.copyMirrored(spare);
        }
        return next.isLike(grid) ? 1 : 0;
    }

    public int plain(int r, int c) {
        if (r < 1 || r > MOST_PLAIN || c < 1 || c > MOST_PLAIN) {
            return REFUSED;
        }
        int greater = r;
        int rest = c;
        // Euclid's steps never outnumber the greater of both numbers.
        for (int i = 0; i <= MOST_PLAIN && rest != 0; i++) {
            int left = greater % rest;
            greater = rest;
            rest = left;
        }
        return greater;
    }

    public int drops(int slot) {
        if (!isSlot(slot)) {
            return REFUSED;
        }
        if (gridIn(slot) == null) {
            return 0;
        }
        next.clear();
        become(slot);
        return 1;
    }

    // ---- undone, told ----

    public int undo() {
        int slot = acts.latestSlot();
        if (!isSlot(slot)) {
            return NONE;
        }
        acts.takeBack(grids[slot]);
        return acts.size();
    }

    public int tell(int slot, int what) {
        Grid grid = gridIn(slot);
        if (grid == null || !isBit(what)) {
            return REFUSED;
        }
        if (what == 0) {
            out.tellGrid(grid);
        } else {
            out.tellPaint(traceOf(grid), grid);
        }
        return out.size();
    }

    public int octet(int i) {
        return out.byteAt(i);
    }

    // ---- what the calls share ----

    private static boolean isSlot(int slot) {
        return slot >= 0 && slot < SLOTS;
    }

    private static boolean isBit(int what) {
        return what == 0 || what == 1;
    }

    private static boolean isKind(int how) {
        return how >= CROSS && how <= GAP;
    }

    private static boolean isSmallPrime(int p) {
        return p == 2 || p == 3 || p == 5 || p == 7 || p == 11 || p == 13;
    }

    private static boolean hasTerm(Grid grid, int k) {
        return k >= -MOST_POWER && k <= MOST_POWER && grid.crosses() <= MOST_SETTLED;
    }

    private static int turnedOver(int kind) {
        if (kind == CROSS) {
            return TURNED;
        }
        return kind == TURNED ? CROSS : kind;
    }

    /** An element, or NONE where the row has no such index. */
    private static int at(int[] row, int i) {
        return i >= 0 && i < row.length ? row[i] : NONE;
    }

    private static void put(int[] row, int i, int value) {
        if (i >= 0 && i < row.length) {
            row[i] = value;
        }
    }

    /** The grid of a slot, or null where there is no such slot or nothing in it. */
    private Grid gridIn(int slot) {
        if (!isSlot(slot) || grids[slot].rows() == 0) {
            return null;
        }
        return grids[slot];
    }

    private boolean hasCell(int slot, int cell) {
        Grid grid = gridIn(slot);
        return grid != null && grid.hasCell(cell);
    }

    private Trace traceOf(Grid grid) {
        trace.follow(grid);
        return trace;
    }

    private Trace traceOfCorner(int slot, int cell, int corner) {
        if (!hasCell(slot, cell) || corner < 0 || corner > 3) {
            return null;
        }
        trace.follow(grids[slot]);
        return trace;
    }

    private Trace traceOfStrand(int slot, int strand) {
        Grid grid = gridIn(slot);
        if (grid == null) {
            return null;
        }
        trace.follow(grid);
        return trace.hasStrand(strand) ? trace : null;
    }

    private int strandsOf(int slot) {
        Grid grid = gridIn(slot);
        if (grid == null) {
            return 0;
        }
        trace.follow(grid);
        return trace.strands();
    }

    private int slotsInUse() {
        int bits = 0;
        for (int i = 0; i < SLOTS; i++) {
            if (gridIn(i) != null) {
                bits |= 1 << i;
            }
        }
        return bits;
    }

    /** Makes a slot what stands in next: an act, if that is another thing. */
    private void become(int slot) {
        if (!isSlot(slot) || grids[slot].isLike(next)) {
            return;
        }
        acts.keep(slot, grids[slot]);
        grids[slot].copy(next);
    }

    /** A grid of cells, and how each of its edges is; without rows it stands for nothing. */
    private static final class Grid {
        private int rows;
        private int columns;
        private int edges;
        private final int[] kinds = new int[MOST_EDGES];
        /** Of each edge: twice its cell, and 1 if it lies below it. */
        private final int[] spots = new int[MOST_EDGES];
        /** The edge at each such spot. */
        private final int[] edgeBySpot = new int[2 * MOST_CELLS];

        void clear() {
            lay(0, 0);
        }

        /** Makes it a grid of crosses alone. */
        void lay(int newRows, int newColumns) {
            boolean fits = newRows > 0 && newRows <= MOST_SPAN && newColumns > 0 && newColumns <= MOST_SPAN;
            rows = fits ? newRows : 0;
            columns = fits ? newColumns : 0;
            edges = 0;
            Arrays.fill(kinds, CROSS);
            Arrays.fill(edgeBySpot, NONE);
            for (int row = 0; row < rows; row++) {
                for (int column = 0; column < columns; column++) {
                    int spot = 2 * (row * columns + column);
                    if (column + 1 < columns) {
                        number(spot);
                    }
                    if (row + 1 < rows) {
                        number(spot + 1);
                    }
                }
            }
        }

        private void number(int spot) {
            put(spots, edges, spot);
            put(edgeBySpot, spot, edges);
            edges++;
        }

        int rows() {
            return rows;
        }

        int columns() {
            return columns;
        }

        int cells() {
            return rows * columns;
        }

        int edges() {
            return edges;
        }

        boolean hasEdge(int e) {
            return e >= 0 && e < edges;
        }

        boolean hasCell(int cell) {
            return cell >= 0 && cell < rows * columns;
        }

        int rowOf(int cell) {
            return columns < 1 ? 0 : cell / columns;
        }

        int columnOf(int cell) {
            return columns < 1 ? 0 : cell % columns;
        }

        int kindOf(int e) {
            return e >= 0 && e < edges && e < MOST_EDGES ? kinds[e] : NONE;
        }

        boolean isCross(int e) {
            int kind = kindOf(e);
            return kind == CROSS || kind == TURNED;
        }

        int cellOf(int e) {
            return hasEdge(e) ? at(spots, e) >> 1 : NONE;
        }

        int belowOf(int e) {
            return hasEdge(e) ? at(spots, e) & 1 : NONE;
        }

        int edgeAt(int cell, int below) {
            return hasCell(cell) && (below == 0 || below == 1) ? at(edgeBySpot, 2 * cell + below) : NONE;
        }

        /** The edge at a side of a cell, NONE at the rim. */
        int edgeOnSide(int cell, int side) {
            switch (side) {
                case 0:
                    return edgeAt(cell - columns, 1);
                case RIGHT_SIDE:
                    return edgeAt(cell, 0);
                case BELOW_SIDE:
                    return edgeAt(cell, 1);
                default:
                    return columnOf(cell) > 0 ? edgeAt(cell - 1, 0) : NONE;
            }
        }

        int cellBeyond(int cell, int side) {
            switch (side) {
                case 0:
                    return cell - columns;
                case RIGHT_SIDE:
                    return cell + 1;
                case BELOW_SIDE:
                    return cell + columns;
                default:
                    return cell - 1;
            }
        }

        int howMany(int kind) {
            int found = 0;
            for (int e = 0; e < edges; e++) {
                if (kindOf(e) == kind) {
                    found++;
                }
            }
            return found;
        }

        int crosses() {
            return howMany(CROSS) + howMany(TURNED);
        }

        void change(int e, int kind) {
            if (hasEdge(e)) {
                put(kinds, e, kind);
            }
        }

        boolean isLike(Grid other) {
            if (rows != other.rows || columns != other.columns) {
                return false;
            }
            for (int e = 0; e < edges; e++) {
                if (kindOf(e) != other.kindOf(e)) {
                    return false;
                }
            }
            return true;
        }

        void copy(Grid other) {
            lay(other.rows, other.columns);
            paste(other, 0);
        }

        /** Puts another grid's edges in, its first column at one of this grid's. */
        void paste(Grid other, int column) {
            for (int e = 0; e < other.edges; e++) {
                int cell = other.cellOf(e);
                int spot = other.rowOf(cell) * columns + other.columnOf(cell) + column;
                change(edgeAt(spot, other.belowOf(e)), other.kindOf(e));
            }
        }

        /** Becomes another grid, turned by a quarter: crosses stay as they are, since lines and edges turn alike. */
        void copyTurned(Grid other) {
            lay(other.columns, other.rows);
            for (int e = 0; e < other.edges; e++) {
                int cell = other.cellOf(e);
                int below = other.belowOf(e);
                // The lower of two cells comes to lie left of the upper one.
                int column = other.rows - 1 - other.rowOf(cell) - below;
                change(edgeAt(other.columnOf(cell) * columns + column, 1 - below), other.kindOf(e));
            }
        }

        void copyMirrored(Grid other) {
            lay(other.rows, other.columns);
            for (int e = 0; e < other.edges; e++) {
                int cell = other.cellOf(e);
                int below = other.belowOf(e);
                // The right one of two cells comes to lie left of the left one.
                int column = columns - 1 - other.columnOf(cell) - (1 - below);
                change(edgeAt(other.rowOf(cell) * columns + column, below), turnedOver(other.kindOf(e)));
            }
        }
    }

    /** The strands of the grid that was followed last, and where they pass its crosses. */
    private static final class Trace {
        private static final int[] SIDE_X = {0, 1, 0, -1};
        private static final int[] SIDE_Y = {-1, 0, 1, 0};

        /** A copy, by which it is seen whether a grid must be followed anew. */
        private final Grid grid = new Grid();
        private int strands;
        private int corners;
        private int passes;
        private final int[] strandOf = new int[MOST_CORNERS];
        private final int[] placeOf = new int[MOST_CORNERS];
        /** 1 where a corner is walked as a clock's hand goes, else -1. */
        private final int[] senseOf = new int[MOST_CORNERS];
        /** The corners of all walks, strand by strand. */
        private final int[] order = new int[MOST_CORNERS];
        private final int[] firstCorner = new int[MOST_CORNERS + 1];
        /** The passings of all walks, strand by strand. */
        private final int[] passEdge = new int[MOST_PASSES];
        private final int[] passStrand = new int[MOST_PASSES];
        private final int[] passX = new int[MOST_PASSES];
        private final int[] passY = new int[MOST_PASSES];
        private final int[] firstPass = new int[MOST_CORNERS + 1];
        /** Of each edge the passing that is over, the one that is under; NONE where it is no cross. */
        private final int[] overPass = new int[MOST_EDGES];
        private final int[] underPass = new int[MOST_EDGES];
        private final int[] pieceOf = new int[MOST_CORNERS];

        void follow(Grid other) {
            if (grid.isLike(other)) {
                return;
            }
            grid.copy(other);
            strands = 0;
            corners = 0;
            passes = 0;
            Arrays.fill(strandOf, NONE);
            Arrays.fill(overPass, NONE);
            Arrays.fill(underPass, NONE);
            for (int corner = 0; corner < 4 * grid.cells(); corner++) {
                if (at(strandOf, corner) == NONE) {
                    followFrom(corner);
                }
            }
            put(firstCorner, strands, corners);
            put(firstPass, strands, passes);
        }

        private void followFrom(int first) {
            put(firstCorner, strands, corners);
            put(firstPass, strands, passes);
            int corner = first;
            boolean onward = true;
            for (int i = 0; i < MOST_CORNERS; i++) {
                note(corner, i, onward);
                int cell = corner >> 2;
                int side = (onward ? corner + 1 : corner) & 3;
                int e = grid.edgeOnSide(cell, side);
                int entered = side;
                if (e != NONE && grid.kindOf(e) != WALL) {
                    cell = grid.cellBeyond(cell, side);
                    entered = side ^ 2;
                }
                if (grid.isCross(e)) {
                    pass(e, onward ? corner & 3 : (corner + 1) & 3, side);
                    // Only over a cross the hand changes with which the peg is gone round.
                    onward = !onward;
                }
                corner = 4 * cell + (onward ? entered : (entered + 3) & 3);
                if (corner == first) {
                    break;
                }
            }
            strands++;
        }

        private void note(int corner, int i, boolean onward) {
            put(strandOf, corner, strands);
            put(placeOf, corner, i);
            put(senseOf, corner, onward ? 1 : -1);
            put(order, corners, corner);
            corners++;
        }

        private void pass(int e, int from, int side) {
            int x = SIDE_X[side & 3] - SIDE_X[from & 3];
            int y = SIDE_Y[side & 3] - SIDE_Y[from & 3];
            boolean falls = x == y;
            boolean isOver = falls == (grid.belowOf(e) == 0);
            if (grid.kindOf(e) == TURNED) {
                isOver = !isOver;
            }
            put(isOver ? overPass : underPass, e, passes);
            put(passEdge, passes, e);
            put(passStrand, passes, strands);
            put(passX, passes, x);
            put(passY, passes, y);
            passes++;
        }

        int strands() {
            return strands;
        }

        boolean hasStrand(int s) {
            return s >= 0 && s < strands;
        }

        int strandAt(int corner) {
            return at(strandOf, corner);
        }

        int placeAt(int corner) {
            return at(placeOf, corner);
        }

        int paintAt(int corner) {
            return at(placeOf, corner) & 1;
        }

        int paintIn(int cell) {
            int found = 0;
            for (int k = 0; k < 4; k++) {
                found += paintAt(4 * cell + k);
            }
            return found;
        }

        int cornersOn(int s) {
            return at(firstCorner, s + 1) - at(firstCorner, s);
        }

        int cornerOn(int s, int i) {
            return i < 0 || i >= cornersOn(s) ? NONE : at(order, at(firstCorner, s) + i);
        }

        int passesOn(int s) {
            return at(firstPass, s + 1) - at(firstPass, s);
        }

        int edgePassed(int s, int i) {
            return i < 0 || i >= passesOn(s) ? NONE : at(passEdge, at(firstPass, s) + i);
        }

        boolean isOverAt(int s, int i) {
            return at(overPass, edgePassed(s, i)) == at(firstPass, s) + i;
        }

        int overStrand(int e) {
            return at(passStrand, at(overPass, e));
        }

        int underStrand(int e) {
            return at(passStrand, at(underPass, e));
        }

        /** The strand that crosses itself at an edge, or NONE. */
        int ownerOf(int e) {
            int s = overStrand(e);
            return s == underStrand(e) ? s : NONE;
        }

        int edges() {
            return grid.edges();
        }

        /** 1 plus, -1 minus, 0 where the edge is no cross. */
        int signOf(int e) {
            if (!grid.isCross(e)) {
                return 0;
            }
            int upper = at(overPass, e);
            int lower = at(underPass, e);
            int leftward = at(passY, upper) * at(passX, lower) - at(passX, upper) * at(passY, lower);
            return leftward > 0 ? 1 : -1;
        }

        int signsOfAll() {
            int sum = 0;
            for (int e = 0; e < grid.edges(); e++) {
                sum += signOf(e);
            }
            return sum;
        }

        /** At how many crosses a strand lies over another one, or over itself. */
        int crossesOver(int a, int b) {
            int found = 0;
            for (int e = 0; e < grid.edges(); e++) {
                if (overStrand(e) == a && underStrand(e) == b) {
                    found++;
                }
            }
            return found;
        }

        int signsOver(int a, int b) {
            int sum = 0;
            for (int e = 0; e < grid.edges(); e++) {
                if (overStrand(e) == a && underStrand(e) == b) {
                    sum += signOf(e);
                }
            }
            return sum;
        }

        boolean goesInTurn(int s) {
            int many = passesOn(s);
            for (int i = 0; i < many; i++) {
                int after = i + 1 < many ? i + 1 : 0;
                if (isOverAt(s, i) == isOverAt(s, after)) {
                    return false;
                }
            }
            return true;
        }

        /** Whether two crosses of one strand with itself are passed in turn. */
        boolean areInTurn(int e, int f) {
            return isBetween(e, at(overPass, f)) != isBetween(e, at(underPass, f));
        }

        private boolean isBetween(int e, int pass) {
            return (pass > at(overPass, e)) != (pass > at(underPass, e));
        }

        int cellsOn(int s) {
            int bits = 0;
            for (int i = 0; i < cornersOn(s); i++) {
                bits |= 1 << (cornerOn(s, i) >> 2);
            }
            return bits;
        }

        /** Counts how often a ray from the peg, just above the one that goes right, is crossed downwards. */
        int turnsRound(int s, int cell) {
            int row = grid.rowOf(cell);
            int column = grid.columnOf(cell);
            int sum = 0;
            for (int i = 0; i < cornersOn(s); i++) {
                int corner = cornerOn(s, i);
                int its = grid.columnOf(corner >> 2);
                if (grid.rowOf(corner >> 2) != row) {
                    continue;
                }
                if ((corner & 3) == 0 && its >= column) {
                    sum += at(senseOf, corner);
                }
                if ((corner & 3) == 3 && its > column) {
                    sum -= at(senseOf, corner);
                }
            }
            return sum;
        }

        int pieces() {
            for (int s = 0; s < strands; s++) {
                put(pieceOf, s, s);
            }
            int found = strands;
            for (int e = 0; e < grid.edges(); e++) {
                if (grid.isCross(e) && joinPieces(overStrand(e), underStrand(e))) {
                    found--;
                }
            }
            return found;
        }

        private boolean joinPieces(int a, int b) {
            int stays = at(pieceOf, a);
            int goes = at(pieceOf, b);
            for (int s = 0; s < strands; s++) {
                if (at(pieceOf, s) == goes) {
                    put(pieceOf, s, stays);
                }
            }
            return stays != goes;
        }

        int firstOfTwo() {
            for (int e = 0; e < grid.edges(); e++) {
                if (grid.isCross(e) && overStrand(e) != underStrand(e)) {
                    return e;
                }
            }
            return NONE;
        }

        int firstKink() {
            for (int e = 0; e < grid.edges(); e++) {
                if (isKink(e)) {
                    return e;
                }
            }
            return NONE;
        }

        private boolean isKink(int e) {
            int owner = ownerOf(e);
            if (owner == NONE) {
                return false;
            }
            int apart = Math.abs(at(overPass, e) - at(underPass, e));
            return apart == 1 || apart == passesOn(owner) - 1;
        }
    }

    /** All ways to make each cross a gap or a wall, for the grid that was gone through last. */
    private static final class Settings {
        private final Grid grid = new Grid();
        private int crosses;
        /** Two ends of a line for each corner: at its side k, at its side k and 1. */
        private final int[] mates = new int[2 * MOST_CORNERS];
        /** Four ends for each cross, and whether it is a turned one. */
        private final int[] crossEnds = new int[4 * MOST_SETTLED];
        private final boolean[] isTurned = new boolean[MOST_SETTLED];
        /** How many ways there are, by how many crosses raise the power, and by loops. */
        private final int[][] tally = new int[MOST_SETTLED + 1][MOST_LOOPS + 1];
        private final long[] terms = new long[2 * MOST_POWER + 1];

        void go(Grid other) {
            if (grid.isLike(other)) {
                return;
            }
            grid.copy(other);
            clear();
            int closed = joinRim();
            for (int e = 0; e < grid.edges(); e++) {
                closed += joinOrKeep(e);
            }
            settle(this, 0, 0, closed);
            addTerms();
        }

        int waysWith(int loops) {
            int found = 0;
            if (loops >= 0 && loops <= MOST_LOOPS) {
                for (int raised = 0; raised <= MOST_SETTLED; raised++) {
                    found += tally[raised][loops];
                }
            }
            return found;
        }

        long term(int k) {
            return k < -MOST_POWER || k > MOST_POWER ? 0 : terms[k + MOST_POWER];
        }

        private void clear() {
            crosses = 0;
            for (int i = 0; i < mates.length; i++) {
                mates[i] = i ^ 1;
            }
            for (int raised = 0; raised <= MOST_SETTLED; raised++) {
                Arrays.fill(tally[raised], 0);
            }
            Arrays.fill(terms, 0);
        }

        private static int openingEnd(int cell, int side) {
            return 2 * (4 * cell + side);
        }

        private static int closingEnd(int cell, int side) {
            return 2 * (4 * cell + ((side + 3) & 3)) + 1;
        }

        private int joinRim() {
            int closed = 0;
            for (int cell = 0; cell < grid.cells(); cell++) {
                for (int side = 0; side < 4; side++) {
                    if (grid.edgeOnSide(cell, side) == NONE) {
                        closed += join(openingEnd(cell, side), closingEnd(cell, side));
                    }
                }
            }
            return closed;
        }

        /** Joins the ends at a wall or a gap: how many loops it closes; keeps those of a cross for later. */
        private int joinOrKeep(int e) {
            int cell = grid.cellOf(e);
            int side = grid.belowOf(e) == 0 ? RIGHT_SIDE : BELOW_SIDE;
            int beyond = grid.cellBeyond(cell, side);
            int a = openingEnd(cell, side);
            int b = closingEnd(cell, side);
            int c = openingEnd(beyond, side ^ 2);
            int d = closingEnd(beyond, side ^ 2);
            if (grid.kindOf(e) == WALL) {
                return join(a, b) + join(c, d);
            }
            if (grid.kindOf(e) == GAP) {
                return join(a, d) + join(b, c);
            }
            if (crosses < MOST_SETTLED) {
                isTurned[crosses] = grid.kindOf(e) == TURNED;
                put(crossEnds, 4 * crosses, a);
                put(crossEnds, 4 * crosses + 1, b);
                put(crossEnds, 4 * crosses + 2, c);
                put(crossEnds, 4 * crosses + 3, d);
                crosses++;
            }
            return 0;
        }

        /** Joins two ends: 1 if that closes a loop, else 0. */
        private int join(int x, int y) {
            int beforeX = at(mates, x);
            int beforeY = at(mates, y);
            if (beforeX == y) {
                return 1;
            }
            put(mates, beforeX, beforeY);
            put(mates, beforeY, beforeX);
            return 0;
        }

        /** Undoes the latest join, whose two ends still know their mates. */
        private void part(int x, int y) {
            if (at(mates, x) != y) {
                put(mates, at(mates, x), x);
                put(mates, at(mates, y), y);
            }
        }

        /** Goes through all ways for the crosses from the i-th on; the depth is at most that of their number. */
        private static void settle(Settings its, int i, int raised, int closed) {
            if (i >= its.crosses || i >= MOST_SETTLED) {
                its.note(raised, closed);
                return;
            }
            int a = at(its.crossEnds, 4 * i);
            int b = at(its.crossEnds, 4 * i + 1);
            int c = at(its.crossEnds, 4 * i + 2);
            int d = at(its.crossEnds, 4 * i + 3);
            int byWall = its.isTurned[i] ? 1 : 0;
            int wallsClose = its.join(a, b) + its.join(c, d);
            settle(its, i + 1, raised + byWall, closed + wallsClose);
            its.part(c, d);
            its.part(a, b);
            int gapsClose = its.join(a, d) + its.join(b, c);
            settle(its, i + 1, raised + 1 - byWall, closed + gapsClose);
            its.part(b, c);
            its.part(a, d);
        }

        private void note(int raised, int closed) {
            if (raised >= 0 && raised <= MOST_SETTLED && closed >= 0 && closed <= MOST_LOOPS) {
                tally[raised][closed]++;
            }
        }

        private void addTerms() {
            for (int raised = 0; raised <= MOST_SETTLED; raised++) {
                for (int closed = 1; closed <= MOST_LOOPS; closed++) {
                    if (tally[raised][closed] != 0) {
                        addPower(tally[raised][closed], 2 * raised - crosses, closed - 1);
                    }
                }
            }
        }

        /** Adds so many times A to a power, times (- A to the 2, - A to the -2) to another power. */
        private void addPower(int many, int power, int factors) {
            long chosen = (factors & 1) == 0 ? many : -many;
            for (int i = 0; i <= factors; i++) {
                int k = power + 2 * factors - 4 * i;
                if (k >= -MOST_POWER && k <= MOST_POWER) {
                    terms[k + MOST_POWER] += chosen;
                }
                chosen = chosen * (factors - i) / (i + 1);
            }
        }
    }

    /** The numbers modulo p that the arcs of strands can have. */
    private static final class Colouring {
        private final int[][] rows = new int[MOST_EDGES][MOST_ARCS];
        private int filled;
        private int arcs;
        private final int[] overArc = new int[MOST_EDGES];
        private final int[] arcBefore = new int[MOST_EDGES];
        private final int[] arcBehind = new int[MOST_EDGES];

        /** To which power p is how many ways there are. */
        int freedom(Trace trace, int p) {
            arcs = 0;
            Arrays.fill(overArc, NONE);
            for (int s = 0; s < trace.strands(); s++) {
                numberArcs(trace, s);
            }
            filled = 0;
            for (int e = 0; e < trace.edges() && e < MOST_EDGES; e++) {
                if (at(overArc, e) != NONE && filled < MOST_EDGES) {
                    Arrays.fill(rows[filled], 0);
                    add(at(overArc, e), 2);
                    add(at(arcBefore, e), -1);
                    add(at(arcBehind, e), -1);
                    filled++;
                }
            }
            return arcs - rank(p);
        }

        private void numberArcs(Trace trace, int s) {
            int many = trace.passesOn(s);
            int unders = 0;
            for (int i = 0; i < many; i++) {
                if (!trace.isOverAt(s, i)) {
                    unders++;
                }
            }
            int met = 0;
            for (int i = 0; i < many; i++) {
                int e = trace.edgePassed(s, i);
                if (trace.isOverAt(s, i)) {
                    // Behind the last cross under which it goes the first arc comes round again.
                    put(overArc, e, arcs + (met < unders ? met : 0));
                } else {
                    put(arcBefore, e, arcs + met);
                    met++;
                    put(arcBehind, e, arcs + (met < unders ? met : 0));
                }
            }
            arcs += Math.max(1, unders);
        }

        private void add(int arc, int times) {
            if (arc >= 0 && arc < MOST_ARCS && filled < MOST_EDGES) {
                rows[filled][arc] += times;
            }
        }

        private int rank(int p) {
            int found = 0;
            for (int arc = 0; arc < arcs && arc < MOST_ARCS; arc++) {
                int pivot = rowWith(found, arc, p);
                if (pivot != NONE) {
                    swapRows(pivot, found);
                    clearBelow(found, arc, p);
                    found++;
                }
            }
            return found;
        }

        private void swapRows(int a, int b) {
            if (a < 0 || b < 0 || a >= MOST_EDGES || b >= MOST_EDGES) {
                return;
            }
            for (int j = 0; j < MOST_ARCS; j++) {
                int kept = rows[a][j];
                rows[a][j] = rows[b][j];
                rows[b][j] = kept;
            }
        }

        private int rowWith(int from, int arc, int p) {
            if (from < 0 || p < 2) {
                return NONE;
            }
            for (int i = from; i < filled && i < MOST_EDGES; i++) {
                if (Math.floorMod(rows[i][arc], p) != 0) {
                    return i;
                }
            }
            return NONE;
        }

        private void clearBelow(int pivot, int arc, int p) {
            if (pivot < 0 || pivot >= MOST_EDGES || p < 2) {
                return;
            }
            int lead = rows[pivot][arc];
            for (int i = pivot + 1; i < filled && i < MOST_EDGES; i++) {
                int own = rows[i][arc];
                for (int j = 0; j < arcs && j < MOST_ARCS; j++) {
                    rows[i][j] = Math.floorMod(rows[i][j] * lead - rows[pivot][j] * own, p);
                }
            }
        }
    }

    /** The trees by which the cells of a grid hang together. */
    private static final class Forest {
        private final int[] knotOf = new int[MOST_CELLS];
        private final long[][] table = new long[MOST_CELLS][MOST_CELLS];

        long grow(Grid grid) {
            for (int cell = 0; cell < MOST_CELLS; cell++) {
                knotOf[cell] = cell;
                Arrays.fill(table[cell], 0);
            }
            for (int e = 0; e < grid.edges(); e++) {
                if (grid.kindOf(e) == GAP) {
                    merge(grid, e);
                }
            }
            int knots = renumber(grid.cells());
            for (int e = 0; e < grid.edges(); e++) {
                if (grid.isCross(e)) {
                    tie(at(knotOf, grid.cellOf(e)), at(knotOf, cellBehind(grid, e)));
                }
            }
            return determinant(knots - 1);
        }

        private static int cellBehind(Grid grid, int e) {
            return grid.cellBeyond(grid.cellOf(e), grid.belowOf(e) == 0 ? RIGHT_SIDE : BELOW_SIDE);
        }

        private void merge(Grid grid, int e) {
            int stays = at(knotOf, grid.cellOf(e));
            int goes = at(knotOf, cellBehind(grid, e));
            // The least cell of a knot keeps its own number, which renumber() relies on.
            int least = Math.min(stays, goes);
            for (int cell = 0; cell < MOST_CELLS; cell++) {
                if (knotOf[cell] == stays || knotOf[cell] == goes) {
                    knotOf[cell] = least;
                }
            }
        }

        /** Numbers the knots from 0 without holes: how many there are. */
        private int renumber(int cells) {
            int knots = 0;
            for (int cell = 0; cell < cells && cell < MOST_CELLS; cell++) {
                if (knotOf[cell] == cell) {
                    knotOf[cell] = knots;
                    knots++;
                } else {
                    knotOf[cell] = at(knotOf, knotOf[cell]);
                }
            }
            return knots;
        }

        private void tie(int a, int b) {
            if (a < 0 || b < 0 || a >= MOST_CELLS || b >= MOST_CELLS || a == b) {
                return;
            }
            table[a][a]++;
            table[b][b]++;
            table[a][b]--;
            table[b][a]--;
        }

        /** Elimination in whole numbers; a pivot of 0 means that some cells do not hang together. */
        private long determinant(int size) {
            if (size < 1 || size > MOST_CELLS) {
                return 1;
            }
            long before = 1;
            for (int k = 0; k + 1 < size; k++) {
                long pivot = table[k][k];
                if (pivot == 0) {
                    return 0;
                }
                for (int i = k + 1; i < size; i++) {
                    for (int j = k + 1; j < size; j++) {
                        table[i][j] = (table[i][j] * pivot - table[i][k] * table[k][j]) / before;
                    }
                }
                before = pivot;
            }
            return table[size - 1][size - 1];
        }
    }

    /** The bytes that are fed, and the grid that they tell. */
    private static final class Tape {
        private static final int NO_TOKEN = 1;
        private static final int OUT_OF_BOUNDS = 2;
        private static final int NO_EDGE = 3;
        private static final int TOLD_AGAIN = 4;

        private static final int END = 0;
        private static final int WORD = 1;
        private static final int NUMBER = 2;
        private static final int SIGN = 3;

        /** The words that tell a kind of edge have that kind's number. */
        private static final int GRID_WORD = 0;
        private static final int RIGHT_WORD = 4;
        private static final int BELOW_WORD = 5;

        /** What is due next in the text. */
        private static final int AT_GRID = 0;
        private static final int AT_ROWS = 1;
        private static final int AT_COLUMNS = 2;
        private static final int AT_SEMICOLON = 3;
        private static final int AT_LINE = 4;
        private static final int AT_CELL = 5;
        private static final int AT_SIDE = 6;
        private static final int AT_NEXT = 7;

        /** Far above all bounds, far below an overflow. */
        private static final int HUGE = 1000;

        private final byte[] bytes = new byte[MOST_BYTES];
        private int size;
        private int fault;
        private int place = NONE;

        private int start;
        private int stop;
        private int sort;
        private int value;

        private int due;
        private int rows;
        private int kind;
        private int cell;

        int size() {
            return size;
        }

        int faultNumber() {
            return fault;
        }

        int faultPlace() {
            return place;
        }

        boolean hasRoom(int more) {
            return size + more <= MOST_BYTES;
        }

        void add(int four) {
            for (int shift = 24; shift >= 0; shift -= 8) {
                if (size < MOST_BYTES) {
                    bytes[size] = (byte) (four >>> shift);
                    size++;
                }
            }
        }

        boolean cut(int n) {
            if (n < 0 || n > size) {
                return false;
            }
            size = n;
            return true;
        }

        /** Reads the grid that the tape tells, and empties the tape: whether there was no fault. */
        boolean readInto(Grid grid) {
            grid.clear();
            stop = 0;
            due = AT_GRID;
            fault = 0;
            place = NONE;
            // Each round takes a byte at least, but for the one that finds the end.
            for (int i = 0; i <= MOST_BYTES; i++) {
                scan();
                if (sort == END && due == AT_LINE) {
                    break;
                }
                fault = take(grid);
                if (fault != 0) {
                    place = start;
                    break;
                }
            }
            size = 0;
            return fault == 0;
        }

        private int byteAt(int i) {
            return i >= 0 && i < size && i < MOST_BYTES ? bytes[i] : NONE;
        }

        private boolean isLetter(int i) {
            return byteAt(i) >= 'a' && byteAt(i) <= 'z';
        }

        private boolean isDigit(int i) {
            return byteAt(i) >= '0' && byteAt(i) <= '9';
        }

        private void scan() {
            start = stop;
            while (start < size && (byteAt(start) == ' ' || byteAt(start) == '\n')) {
                start++;
            }
            stop = start;
            if (start >= size) {
                sort = END;
            } else if (isLetter(start)) {
                scanWord();
            } else if (isDigit(start)) {
                scanNumber();
            } else {
                sort = SIGN;
                value = byteAt(start);
                stop++;
            }
        }

        private void scanWord() {
            while (stop < size && isLetter(stop)) {
                stop++;
            }
            sort = WORD;
            value = wordNumber();
        }

        private void scanNumber() {
            sort = NUMBER;
            value = 0;
            while (stop < size && isDigit(stop)) {
                value = Math.min(HUGE, 10 * value + byteAt(stop) - '0');
                stop++;
            }
        }

        private int wordNumber() {
            if (spells("grid")) {
                return GRID_WORD;
            }
            if (spells("turn")) {
                return TURNED;
            }
            if (spells("wall")) {
                return WALL;
            }
            if (spells("gap")) {
                return GAP;
            }
            if (spells("right")) {
                return RIGHT_WORD;
            }
            return spells("below") ? BELOW_WORD : NONE;
        }

        private boolean spells(String word) {
            if (stop - start != word.length()) {
                return false;
            }
            for (int i = 0; i < word.length(); i++) {
                if (byteAt(start + i) != word.charAt(i)) {
                    return false;
                }
            }
            return true;
        }

        /** Takes a token where it stands: its fault, or 0. */
        private int take(Grid grid) {
            switch (due) {
                case AT_GRID:
                    return expect(sort == WORD && value == GRID_WORD, AT_ROWS);
                case AT_ROWS:
                    rows = value;
                    return takeNumber(1, MOST_SPAN, AT_COLUMNS);
                case AT_COLUMNS:
                    // Where the number is out of its bounds this lays nothing, and a fault follows.
                    grid.lay(rows, value);
                    return takeNumber(1, MOST_SPAN, AT_SEMICOLON);
                case AT_SEMICOLON:
                    return expect(isSign(';'), AT_LINE);
                case AT_LINE:
                    kind = value;
                    return expect(sort == WORD && value >= TURNED && value <= GAP, AT_CELL);
                case AT_CELL:
                    cell = value;
                    return takeNumber(0, grid.cells() - 1, AT_SIDE);
                case AT_SIDE:
                    return takeSide(grid);
                default:
                    return expect(isSign(';') || isSign(','), isSign(';') ? AT_LINE : AT_CELL);
            }
        }

        private boolean isSign(char wanted) {
            return sort == SIGN && value == wanted;
        }

        private int expect(boolean stands, int then) {
            due = then;
            return stands ? 0 : NO_TOKEN;
        }

        private int takeNumber(int least, int most, int then) {
            if (sort != NUMBER) {
                return NO_TOKEN;
            }
            due = then;
            return value < least || value > most ? OUT_OF_BOUNDS : 0;
        }

        private int takeSide(Grid grid) {
            if (sort != WORD || (value != RIGHT_WORD && value != BELOW_WORD)) {
                return NO_TOKEN;
            }
            int e = grid.edgeAt(cell, value == RIGHT_WORD ? 0 : 1);
            if (e == NONE) {
                return NO_EDGE;
            }
            // No line tells a cross, so what is none has been told.
            if (grid.kindOf(e) != CROSS) {
                return TOLD_AGAIN;
            }
            grid.change(e, kind);
            due = AT_NEXT;
            return 0;
        }
    }

    /** The bytes in which a grid was told last. */
    private static final class Out {
        private final byte[] bytes = new byte[MOST_BYTES];
        private int size;

        int size() {
            return size;
        }

        int byteAt(int i) {
            return i >= 0 && i < size && i < MOST_BYTES ? bytes[i] : NONE;
        }

        void tellGrid(Grid grid) {
            size = 0;
            addText("grid ");
            addNumber(grid.rows());
            addByte(' ');
            addNumber(grid.columns());
            addByte(';');
            addLine(grid, TURNED, "turn ");
            addLine(grid, WALL, "wall ");
            addLine(grid, GAP, "gap ");
        }

        void tellPaint(Trace trace, Grid grid) {
            size = 0;
            for (int row = 0; row < grid.rows(); row++) {
                addPaint(trace, grid, row, 3, 0);
                addPaint(trace, grid, row, 2, 1);
            }
        }

        private void addLine(Grid grid, int kind, String word) {
            if (grid.howMany(kind) == 0) {
                return;
            }
            addText(word);
            boolean isFirst = true;
            for (int e = 0; e < grid.edges(); e++) {
                if (grid.kindOf(e) == kind) {
                    if (!isFirst) {
                        addByte(',');
                    }
                    isFirst = false;
                    addNumber(grid.cellOf(e));
                    addText(grid.belowOf(e) == 0 ? " right" : " below");
                }
            }
            addByte(';');
        }

        private void addPaint(Trace trace, Grid grid, int row, int left, int right) {
            for (int column = 0; column < grid.columns(); column++) {
                int cell = row * grid.columns() + column;
                addNumber(trace.paintAt(4 * cell + left));
                addNumber(trace.paintAt(4 * cell + right));
            }
            addByte('\n');
        }

        private void addText(String text) {
            for (int i = 0; i < text.length(); i++) {
                addByte(text.charAt(i));
            }
        }

        /** No number told has more than two digits. */
        private void addNumber(int number) {
            if (number >= 10) {
                addByte((char) ('0' + number / 10));
            }
            addByte((char) ('0' + number % 10));
        }

        private void addByte(char sign) {
            if (size < MOST_BYTES) {
                bytes[size] = (byte) sign;
                size++;
            }
        }
    }

    /** The latest acts: which slot each changed, and what had been there. */
    private static final class Acts {
        private final int[] slots = new int[MOST_ACTS];
        private final Grid[] before = new Grid[MOST_ACTS];
        private int size;
        /** Where the next act comes; the rows are used round. */
        private int top;

        Acts() {
            for (int i = 0; i < MOST_ACTS; i++) {
                before[i] = new Grid();
            }
        }

        int size() {
            return size;
        }

        void keep(int slot, Grid grid) {
            if (top < 0 || top >= MOST_ACTS) {
                return;
            }
            slots[top] = slot;
            before[top].copy(grid);
            top = top + 1 < MOST_ACTS ? top + 1 : 0;
            size = Math.min(MOST_ACTS, size + 1);
        }

        /** The slot of the latest act that can be undone, or NONE. */
        int latestSlot() {
            return size > 0 ? at(slots, latest()) : NONE;
        }

        void takeBack(Grid grid) {
            int i = latest();
            if (size > 0 && i >= 0 && i < MOST_ACTS) {
                grid.copy(before[i]);
                top = i;
                size--;
            }
        }

        private int latest() {
            return top > 0 ? top - 1 : MOST_ACTS - 1;
        }
    }
}

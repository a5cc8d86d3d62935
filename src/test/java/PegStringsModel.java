import java.util.ArrayDeque;
import java.util.ArrayList;
import java.util.Arrays;
import java.util.HashSet;
import java.util.List;
import java.util.Map;
import java.util.Set;
import java.util.TreeMap;
import java.util.regex.Matcher;
import java.util.regex.Pattern;

/**
 * A second, slow way to answer all calls, for tests to compare with: strings are followed as balls on a table
 * (points with coordinates, directions that bounce), and most counts are made by trying all there is.
 * What it would take too long to try it answers with UNKNOWN.
 */
final class PegStringsModel {
    static final long UNKNOWN = Long.MIN_VALUE;

    /** How the edges are, by the points where they lie; cells have their middles at odd coordinates. */
    record Board(int rows, int columns, Map<Integer, Integer> kinds) {
        static int point(int x, int y) {
            return 100 * y + x;
        }

        static Board plain(int rows, int columns) {
            Board board = new Board(rows, columns, new TreeMap<>());
            for (int y = 1; y < 2 * rows; y++) {
                for (int x = 1; x < 2 * columns; x++) {
                    if ((x + y) % 2 == 1) {
                        board.kinds.put(point(x, y), 0);
                    }
                }
            }
            return board;
        }

        Board with(int point, int kind) {
            Board other = new Board(rows, columns, new TreeMap<>(kinds));
            other.kinds.put(point, kind);
            return other;
        }

        List<Integer> points() {
            List<Integer> found = new ArrayList<>();
            for (int cell = 0; cell < rows * columns; cell++) {
                int x = 2 * (cell % columns) + 1;
                int y = 2 * (cell / columns) + 1;
                for (int point : new int[] {point(x + 1, y), point(x, y + 1)}) {
                    if (kinds.containsKey(point)) {
                        found.add(point);
                    }
                }
            }
            return found;
        }

        List<Integer> crosses() {
            return points().stream().filter(p -> kinds.get(p) < 2).toList();
        }

        Board turned() {
            Map<Integer, Integer> there = new TreeMap<>();
            kinds.forEach((p, kind) -> there.put(point(2 * rows - p / 100, p % 100), kind));
            return new Board(columns, rows, there);
        }

        Board mirrored() {
            Map<Integer, Integer> there = new TreeMap<>();
            kinds.forEach((p, kind) -> there.put(point(2 * columns - p % 100, p / 100), kind < 2 ? 1 - kind : kind));
            return new Board(rows, columns, there);
        }

        int cellBefore(int point) {
            int x = point % 100;
            int y = point / 100;
            return (y - 1) / 2 * columns + (x - 1) / 2;
        }

        int cellBehind(int point) {
            return cellBefore(point) + (isBelow(point) ? columns : 1);
        }

        static boolean isBelow(int point) {
            return point / 100 % 2 == 0;
        }
    }

    record Step(int x, int y, int dx, int dy, int corner) { }

    record Pass(int point, int dx, int dy, boolean isOver) { }

    record Line(List<Step> steps, List<Pass> passes) { }

    private Board[] boards = new Board[3];
    private final ArrayDeque<Board[]> earlier = new ArrayDeque<>();
    private byte[] tape = new byte[0];
    private byte[] out = new byte[0];
    private int fault = 0;
    private int place = -1;

    // ---- following lines ----

    static int cornerOf(Board board, int x, int y, int dx, int dy) {
        int cell = (2 * y + dy) / 4 * board.columns + (2 * x + dx) / 4;
        boolean right = (2 * x + dx) % 4 == 3;
        boolean low = (2 * y + dy) % 4 == 3;
        int k = right ? (low ? 1 : 0) : (low ? 2 : 3);
        return 4 * cell + k;
    }

    static List<Line> lines(Board board) {
        Set<Integer> seen = new HashSet<>();
        List<Line> found = new ArrayList<>();
        for (int corner = 0; corner < 4 * board.rows * board.columns; corner++) {
            if (!seen.contains(corner)) {
                Line line = lineFrom(board, corner);
                line.steps.forEach(step -> seen.add(step.corner));
                found.add(line);
            }
        }
        return found;
    }

    static Line lineFrom(Board board, int corner) {
        int cell = corner / 4;
        int[][] sides = {{0, -1}, {1, 0}, {0, 1}, {-1, 0}};
        int[] from = sides[corner % 4];
        int[] to = sides[(corner + 1) % 4];
        int x = 2 * (cell % board.columns) + 1 + from[0];
        int y = 2 * (cell / board.columns) + 1 + from[1];
        int dx = to[0] - from[0];
        int dy = to[1] - from[1];
        Line line = new Line(new ArrayList<>(), new ArrayList<>());
        int now = corner;
        do {
            line.steps.add(new Step(x, y, dx, dy, now));
            x += dx;
            y += dy;
            int point = Board.point(x, y);
            int kind = board.kinds.getOrDefault(point, 2);
            boolean flat = y % 2 == 0;
            if (kind < 2) {
                boolean falls = dx * dy > 0;
                line.passes.add(new Pass(point, dx, dy, (flat ? !falls : falls) == (kind == 0)));
            } else if ((kind == 2) == flat) {
                dy = -dy;
            } else {
                dx = -dx;
            }
            now = cornerOf(board, x, y, dx, dy);
        } while (now != corner);
        return line;
    }

    // ---- tape ----

    int feed(int a, int b, int c, int d, int e) {
        if (tape.length + 20 > 400) {
            return -1;
        }
        tape = Arrays.copyOf(tape, tape.length + 20);
        java.nio.ByteBuffer.wrap(tape, tape.length - 20, 20).putInt(a).putInt(b).putInt(c).putInt(d).putInt(e);
        return tape.length;
    }

    int end(int n) {
        if (n < 0 || n > tape.length) {
            return -1;
        }
        tape = Arrays.copyOf(tape, n);
        return n;
    }

    private static final Pattern TOKEN = Pattern.compile("[a-z]+|[0-9]+|[^ \\n]", Pattern.DOTALL);

    /** The grid of a text, or two numbers: the fault and its place. */
    static Object read(String text) {
        List<String> tokens = new ArrayList<>();
        List<Integer> places = new ArrayList<>();
        Matcher matcher = TOKEN.matcher(text);
        while (matcher.find()) {
            tokens.add(matcher.group());
            places.add(matcher.start());
        }
        tokens.add("");
        places.add(text.length());
        String[] head = {"grid", "[0-9]+", "[0-9]+", ";"};
        for (int i = 0; i < 4; i++) {
            if (!tokens.get(i).matches(head[i])) {
                return new int[] {1, places.get(i)};
            }
            if ((i == 1 || i == 2) && !tokens.get(i).matches("0*[1-4]")) {
                return new int[] {2, places.get(i)};
            }
        }
        Board board = Board.plain(small(tokens.get(1)), small(tokens.get(2)));
        Set<Integer> told = new HashSet<>();
        int i = 4;
        while (!tokens.get(i).isEmpty()) {
            int kind = List.of("", "turn", "wall", "gap").indexOf(tokens.get(i));
            if (kind < 1) {
                return new int[] {1, places.get(i)};
            }
            do {
                i++;
                if (!tokens.get(i).matches("[0-9]+")) {
                    return new int[] {1, places.get(i)};
                }
                int cell = small(tokens.get(i));
                if (cell >= board.rows * board.columns) {
                    return new int[] {2, places.get(i)};
                }
                i++;
                if (!tokens.get(i).matches("right|below")) {
                    return new int[] {1, places.get(i)};
                }
                boolean below = tokens.get(i).equals("below");
                int point = Board.point(2 * (cell % board.columns) + (below ? 1 : 2),
                        2 * (cell / board.columns) + (below ? 2 : 1));
                if (!board.kinds.containsKey(point)) {
                    return new int[] {3, places.get(i)};
                }
                if (!told.add(point)) {
                    return new int[] {4, places.get(i)};
                }
                board.kinds.put(point, kind);
                i++;
            } while (tokens.get(i).equals(","));
            if (!tokens.get(i).equals(";")) {
                return new int[] {1, places.get(i)};
            }
            i++;
        }
        return board;
    }

    private static int small(String digits) {
        return new java.math.BigInteger(digits).min(java.math.BigInteger.valueOf(999)).intValue();
    }

    int told(int slot) {
        if (slot < 0 || slot > 2) {
            return -2;
        }
        Object read = read(new String(tape, java.nio.charset.StandardCharsets.ISO_8859_1));
        tape = new byte[0];
        if (read instanceof int[] wrong) {
            fault = wrong[0];
            place = wrong[1];
            return -4;
        }
        fault = 0;
        place = -1;
        become(slot, (Board) read);
        return lines(boards[slot]).size();
    }

    int fault(int what) {
        return what == 0 ? fault : what == 1 ? place : -1;
    }

    int count(int what) {
        int bits = 0;
        for (int i = 0; i < 3; i++) {
            bits += boards[i] == null ? 0 : 1 << i;
        }
        return what == 0 ? bits : what == 1 ? earlier.size() : what == 2 ? tape.length : what == 3 ? out.length : -1;
    }

    // ---- looks ----

    private boolean none(int slot) {
        return slot < 0 || slot > 2 || boards[slot] == null;
    }

    private boolean noCell(int slot, int cell) {
        return none(slot) || cell < 0 || cell >= boards[slot].rows * boards[slot].columns;
    }

    private boolean noCorner(int slot, int cell, int corner) {
        return noCell(slot, cell) || corner < 0 || corner > 3;
    }

    private boolean noEdge(int slot, int e) {
        return none(slot) || e < 0 || e >= boards[slot].kinds.size();
    }

    private boolean noStrand(int slot, int s) {
        return none(slot) || s < 0 || s >= lines(boards[slot]).size();
    }

    private int kinds(int slot, int kind) {
        return (int) boards[slot].kinds.values().stream().filter(k -> k == kind).count();
    }

    int look(int slot, int what) {
        if (none(slot)) {
            return -2;
        }
        return switch (what) {
            case 0 -> boards[slot].rows;
            case 1 -> boards[slot].columns;
            case 2 -> boards[slot].kinds.size();
            case 3 -> kinds(slot, 0) + kinds(slot, 1);
            case 4, 5, 6 -> kinds(slot, what - 3);
            case 7 -> lines(boards[slot]).size();
            case 8 -> pieces(boards[slot]);
            default -> -2;
        };
    }

    static int pieces(Board board) {
        List<Set<Integer>> groups = new ArrayList<>();
        for (Line line : lines(board)) {
            Set<Integer> met = new HashSet<>();
            line.passes.forEach(pass -> met.add(pass.point));
            List<Set<Integer>> apart = new ArrayList<>();
            for (Set<Integer> group : groups) {
                if (group.stream().anyMatch(met::contains)) {
                    met.addAll(group);
                } else {
                    apart.add(group);
                }
            }
            apart.add(met);
            groups = apart;
        }
        return groups.size();
    }

    int edge(int slot, int e) {
        return noEdge(slot, e) ? -2 : boards[slot].kinds.get(boards[slot].points().get(e));
    }

    int name(int slot, int e, int what) {
        if (noEdge(slot, e) || what < 0 || what > 1) {
            return -2;
        }
        int point = boards[slot].points().get(e);
        return what == 0 ? boards[slot].cellBefore(point) : Board.isBelow(point) ? 1 : 0;
    }

    int edgeOf(int slot, int cell, int below) {
        if (noCell(slot, cell) || below < 0 || below > 1) {
            return -2;
        }
        for (int e = 0; e < boards[slot].kinds.size(); e++) {
            if (name(slot, e, 0) == cell && name(slot, e, 1) == below) {
                return e;
            }
        }
        return -1;
    }

    private int[] find(int slot, int corner) {
        List<Line> lines = lines(boards[slot]);
        for (int s = 0; s < lines.size(); s++) {
            for (int i = 0; i < lines.get(s).steps.size(); i++) {
                if (lines.get(s).steps.get(i).corner == corner) {
                    return new int[] {s, i};
                }
            }
        }
        throw new IllegalStateException("a corner without a strand");
    }

    int strand(int slot, int cell, int corner) {
        return noCorner(slot, cell, corner) ? -2 : find(slot, 4 * cell + corner)[0];
    }

    int place(int slot, int cell, int corner) {
        return noCorner(slot, cell, corner) ? -2 : find(slot, 4 * cell + corner)[1];
    }

    int walk(int slot, int s, int i) {
        if (noStrand(slot, s) || i < 0) {
            return -2;
        }
        List<Step> steps = lines(boards[slot]).get(s).steps;
        return i < steps.size() ? steps.get(i).corner : -1;
    }

    int length(int slot, int s) {
        return noStrand(slot, s) ? -2 : lines(boards[slot]).get(s).steps.size();
    }

    // ---- crosses of strands ----

    /** The strand and the passing that are over at a point (or under). */
    private static int[] at(List<Line> lines, int point, boolean isOver) {
        for (int s = 0; s < lines.size(); s++) {
            for (int i = 0; i < lines.get(s).passes.size(); i++) {
                Pass pass = lines.get(s).passes.get(i);
                if (pass.point == point && pass.isOver == isOver) {
                    return new int[] {s, i};
                }
            }
        }
        throw new IllegalStateException("a cross that is not passed twice");
    }

    private static int signAt(List<Line> lines, int point) {
        int[] o = at(lines, point, true);
        int[] u = at(lines, point, false);
        Pass over = lines.get(o[0]).passes.get(o[1]);
        Pass under = lines.get(u[0]).passes.get(u[1]);
        // The direction to the left of the one that is over, as y grows downwards.
        int leftX = over.dy;
        int leftY = -over.dx;
        return leftX * under.dx + leftY * under.dy > 0 ? 1 : -1;
    }

    int meets(int slot, int a, int b) {
        if (noStrand(slot, a) || noStrand(slot, b)) {
            return -2;
        }
        return over(slot, a, b) + (a == b ? 0 : over(slot, b, a));
    }

    int over(int slot, int a, int b) {
        if (noStrand(slot, a) || noStrand(slot, b)) {
            return -2;
        }
        List<Line> lines = lines(boards[slot]);
        int found = 0;
        for (int point : boards[slot].crosses()) {
            found += at(lines, point, true)[0] == a && at(lines, point, false)[0] == b ? 1 : 0;
        }
        return found;
    }

    int sign(int slot, int e) {
        if (noEdge(slot, e)) {
            return -2;
        }
        int point = boards[slot].points().get(e);
        return boards[slot].kinds.get(point) > 1 ? -1 : signAt(lines(boards[slot]), point) > 0 ? 1 : 0;
    }

    private int signs(int slot, int a, int b) {
        List<Line> lines = lines(boards[slot]);
        int sum = 0;
        for (int point : boards[slot].crosses()) {
            int o = at(lines, point, true)[0];
            int u = at(lines, point, false)[0];
            sum += o == a && u == b || o == b && u == a ? signAt(lines, point) : 0;
        }
        return sum;
    }

    int twist(int slot, int s) {
        return noStrand(slot, s) ? -1000 : signs(slot, s, s);
    }

    int link(int slot, int a, int b) {
        if (noStrand(slot, a) || noStrand(slot, b) || a == b) {
            return -1000;
        }
        if (signs(slot, a, b) % 2 != 0) {
            throw new IllegalStateException("two strands meet an odd number of times");
        }
        return signs(slot, a, b) / 2;
    }

    int alternates(int slot, int s) {
        if (noStrand(slot, s)) {
            return -2;
        }
        StringBuilder ways = new StringBuilder();
        lines(boards[slot]).get(s).passes.forEach(pass -> ways.append(pass.isOver ? 'o' : 'u'));
        return ways.toString().matches("(ou)*|(uo)*") ? 1 : 0;
    }

    int passed(int slot, int s, int i) {
        if (noStrand(slot, s) || i < 0) {
            return -2;
        }
        List<Pass> passes = lines(boards[slot]).get(s).passes;
        return i < passes.size() ? boards[slot].points().indexOf(passes.get(i).point) : -1;
    }

    int interlaced(int slot, int e, int f) {
        if (noEdge(slot, e) || noEdge(slot, f)) {
            return -2;
        }
        List<Line> lines = lines(boards[slot]);
        for (Line line : lines) {
            StringBuilder met = new StringBuilder();
            for (Pass pass : line.passes) {
                int point = boards[slot].points().indexOf(pass.point);
                met.append(point == e ? "e" : point == f ? "f" : "");
            }
            if (met.length() == 4 && e != f) {
                return met.toString().matches("efef|fefe") ? 1 : 0;
            }
        }
        return -1;
    }

    int visits(int slot, int s) {
        if (noStrand(slot, s)) {
            return -2;
        }
        Set<Integer> cells = new HashSet<>();
        lines(boards[slot]).get(s).steps.forEach(step -> cells.add(step.corner / 4));
        return cells.stream().mapToInt(cell -> 1 << cell).sum();
    }

    int winds(int slot, int s, int cell) {
        if (noStrand(slot, s) || noCell(slot, cell)) {
            return -1000;
        }
        double sum = 0;
        int px = 2 * (cell % boards[slot].columns) + 1;
        int py = 2 * (cell / boards[slot].columns) + 1;
        for (Step step : lines(boards[slot]).get(s).steps) {
            double ax = step.x - px;
            double ay = step.y - py;
            double bx = ax + step.dx;
            double by = ay + step.dy;
            sum += Math.atan2(ax * by - ay * bx, ax * bx + ay * by);
        }
        return (int) Math.round(sum / (2 * Math.PI));
    }

    int paint(int slot, int cell, int corner) {
        return noCorner(slot, cell, corner) ? -2 : place(slot, cell, corner) % 2;
    }

    int painted(int slot, int column, int k) {
        if (none(slot) || column < 0 || column > 1 || k < 0
                || k >= (column == 0 ? boards[slot].rows : boards[slot].columns)) {
            return -2;
        }
        int sum = 0;
        for (int i = 0; i < (column == 0 ? boards[slot].columns : boards[slot].rows); i++) {
            int cell = column == 0 ? k * boards[slot].columns + i : i * boards[slot].columns + k;
            for (int corner = 0; corner < 4; corner++) {
                sum += paint(slot, cell, corner);
            }
        }
        return sum;
    }

    // ---- all ways ----

    private static Board settled(Board board, long set) {
        Board other = board;
        List<Integer> crosses = board.crosses();
        for (int i = 0; i < crosses.size(); i++) {
            other = other.with(crosses.get(i), (set >> i & 1) == 1 ? 3 : 2);
        }
        return other;
    }

    int loops(int slot, long set) {
        if (none(slot) || set < 0 || set >= 1L << boards[slot].crosses().size()) {
            return -2;
        }
        return lines(settled(boards[slot], set)).size();
    }

    long settings(int slot, int n) {
        if (none(slot) || n < 0) {
            return -2;
        }
        int crosses = boards[slot].crosses().size();
        if (crosses > 12) {
            return -5;
        }
        if (crosses > 7) {
            return UNKNOWN;
        }
        int found = 0;
        for (long set = 0; set < 1L << crosses; set++) {
            found += lines(settled(boards[slot], set)).size() == n ? 1 : 0;
        }
        return found;
    }

    private static void add(Map<Integer, Long> terms, int power, long times) {
        terms.merge(power, times, Long::sum);
    }

    private static Map<Integer, Long> bracketOf(Board board) {
        Map<Integer, Long> sum = new TreeMap<>();
        List<Integer> crosses = board.crosses();
        for (long set = 0; set < 1L << crosses.size(); set++) {
            int power = 0;
            for (int i = 0; i < crosses.size(); i++) {
                boolean gap = (set >> i & 1) == 1;
                power += gap == (board.kinds.get(crosses.get(i)) == 0) ? 1 : -1;
            }
            Map<Integer, Long> terms = new TreeMap<>(Map.of(power, 1L));
            for (int i = lines(settled(board, set)).size(); i > 1; i--) {
                Map<Integer, Long> more = new TreeMap<>();
                terms.forEach((k, v) -> {
                    add(more, k + 2, -v);
                    add(more, k - 2, -v);
                });
                terms = more;
            }
            terms.forEach((k, v) -> add(sum, k, v));
        }
        return sum;
    }

    long bracket(int slot, int k) {
        if (none(slot) || k < -100 || k > 100 || boards[slot].crosses().size() > 12) {
            return -1000000000L;
        }
        return boards[slot].crosses().size() > 7 ? UNKNOWN : bracketOf(boards[slot]).getOrDefault(k, 0L);
    }

    long smooth(int slot, int k) {
        if (none(slot) || k < -100 || k > 100 || boards[slot].crosses().size() > 12) {
            return -1000000000L;
        }
        if (boards[slot].crosses().size() > 7) {
            return UNKNOWN;
        }
        List<Line> lines = lines(boards[slot]);
        int w = boards[slot].crosses().stream().mapToInt(point -> signAt(lines, point)).sum();
        Map<Integer, Long> terms = bracketOf(boards[slot]);
        for (int i = 0; i < Math.abs(w); i++) {
            Map<Integer, Long> more = new TreeMap<>();
            terms.forEach((power, v) -> add(more, power + (w > 0 ? -3 : 3), -v));
            terms = more;
        }
        return terms.getOrDefault(k, 0L);
    }

    /** Trees counted cross by cross: those without it, and those with it, its cells made one. */
    private static long treesOf(Board board) {
        for (int point : board.crosses()) {
            int[] knots = knots(board);
            if (knots[board.cellBefore(point)] == knots[board.cellBehind(point)]) {
                return treesOf(board.with(point, 2));
            }
            return treesOf(board.with(point, 2)) + treesOf(board.with(point, 3));
        }
        return Arrays.stream(knots(board)).distinct().count() == 1 ? 1 : 0;
    }

    private static int[] knots(Board board) {
        int[] knots = new int[board.rows * board.columns];
        Arrays.setAll(knots, cell -> cell);
        for (int point : board.points()) {
            if (board.kinds.get(point) == 3) {
                int a = knots[board.cellBefore(point)];
                int b = knots[board.cellBehind(point)];
                Arrays.setAll(knots, cell -> knots[cell] == b ? a : knots[cell]);
            }
        }
        return knots;
    }

    long trees(int slot) {
        if (none(slot)) {
            return -2;
        }
        return boards[slot].crosses().size() > 10 ? UNKNOWN : treesOf(boards[slot]);
    }

    long colours(int slot, int p) {
        if (none(slot) || !List.of(2, 3, 5, 7, 11, 13).contains(p)) {
            return -2;
        }
        List<Line> lines = lines(boards[slot]);
        List<Integer> crosses = boards[slot].crosses();
        int arcs = 0;
        int[][] rules = new int[crosses.size()][3];
        for (Line line : lines) {
            int unders = (int) line.passes.stream().filter(pass -> !pass.isOver).count();
            int now = 0;
            for (Pass pass : line.passes) {
                int[] rule = rules[crosses.indexOf(pass.point)];
                if (pass.isOver) {
                    rule[0] = arcs + now;
                } else {
                    rule[1] = arcs + now;
                    now = (now + 1) % unders;
                    rule[2] = arcs + now;
                }
            }
            arcs += Math.max(unders, 1);
        }
        double all = Math.pow(p, arcs);
        if (all > 3000) {
            return UNKNOWN;
        }
        int found = 0;
        for (int way = 0; way < Math.round(all); way++) {
            int[] numbers = new int[arcs];
            for (int arc = 0, rest = way; arc < arcs; arc++, rest /= p) {
                numbers[arc] = rest % p;
            }
            boolean good = true;
            for (int[] rule : rules) {
                good &= (2 * numbers[rule[0]] + 2 * p - numbers[rule[1]] - numbers[rule[2]]) % p == 0;
            }
            found += good ? 1 : 0;
        }
        return Math.round(Math.log(found) / Math.log(p));
    }

    /** Tries all ways to undo one cross, two, and so on. */
    long needs(int slot) {
        if (none(slot)) {
            return -2;
        }
        if (boards[slot].crosses().size() > 5) {
            return UNKNOWN;
        }
        Set<Board> tried = Set.of(boards[slot]);
        for (int changed = 0; !tried.isEmpty(); changed++) {
            if (tried.stream().anyMatch(board -> lines(board).size() == 1)) {
                return changed;
            }
            Set<Board> more = new HashSet<>();
            for (Board board : tried) {
                for (int point : board.crosses()) {
                    more.add(board.with(point, 2));
                    more.add(board.with(point, 3));
                }
            }
            tried = more;
        }
        return -1;
    }

    // ---- acts ----

    private void become(int slot, Board board) {
        if (board == null ? boards[slot] == null : board.equals(boards[slot])) {
            return;
        }
        earlier.addLast(boards.clone());
        if (earlier.size() > 10) {
            earlier.removeFirst();
        }
        boards[slot] = board;
    }

    int oneLine(int slot) {
        if (none(slot)) {
            return -2;
        }
        Board board = boards[slot];
        int changed = 0;
        boolean again = true;
        while (again) {
            again = false;
            List<Line> lines = lines(board);
            for (int point : board.crosses()) {
                if (at(lines, point, true)[0] != at(lines, point, false)[0]) {
                    board = board.with(point, 2);
                    changed++;
                    again = true;
                    break;
                }
            }
        }
        if (lines(board).size() > 1) {
            return -6;
        }
        become(slot, board);
        return changed;
    }

    private static boolean isKink(List<Line> lines, int point) {
        for (Line line : lines) {
            int many = line.passes.size();
            for (int i = 0; i < many; i++) {
                if (line.passes.get(i).point == point && line.passes.get((i + 1) % many).point == point) {
                    return true;
                }
            }
        }
        return false;
    }

    int eases(int slot) {
        if (none(slot)) {
            return -2;
        }
        Board board = boards[slot];
        int strands = lines(board).size();
        int changed = 0;
        boolean again = true;
        while (again) {
            again = false;
            List<Line> lines = lines(board);
            for (int point : board.crosses()) {
                if (isKink(lines, point)) {
                    Board walled = board.with(point, 2);
                    Board gapped = board.with(point, 3);
                    if ((lines(walled).size() == strands) == (lines(gapped).size() == strands)) {
                        throw new IllegalStateException("a kink that can be eased in two ways, or none");
                    }
                    board = lines(walled).size() == strands ? walled : gapped;
                    changed++;
                    again = true;
                    break;
                }
            }
        }
        become(slot, board);
        return changed;
    }

    int sets(int slot, int e, int how) {
        if (noEdge(slot, e) || how < 0 || how > 3) {
            return -2;
        }
        int before = edge(slot, e);
        become(slot, boards[slot].with(boards[slot].points().get(e), how));
        return before;
    }

    int all(int slot, int how, int then) {
        if (none(slot) || how < 0 || how > 3 || then < 0 || then > 3) {
            return -2;
        }
        int changed = how == then ? 0 : kinds(slot, how);
        Board board = Board.plain(boards[slot].rows, boards[slot].columns);
        boards[slot].kinds.forEach((point, kind) -> board.kinds.put(point, kind == how ? then : kind));
        become(slot, board);
        return changed;
    }

    int under(int slot) {
        if (none(slot)) {
            return -2;
        }
        Board board = boards[slot];
        for (int point : boards[slot].crosses()) {
            board = board.with(point, 1 - board.kinds.get(point));
        }
        become(slot, board);
        return board.crosses().size();
    }

    int quarter(int slot) {
        if (none(slot)) {
            return -2;
        }
        become(slot, boards[slot].turned());
        return boards[slot].rows;
    }

    int mirror(int slot) {
        if (none(slot)) {
            return -2;
        }
        become(slot, boards[slot].mirrored());
        return lines(boards[slot]).size();
    }

    int beside(int slot, int other, int how, int to) {
        if (none(slot) || none(other) || how < 0 || how > 3 || to < 0 || to > 2) {
            return -2;
        }
        Board left = boards[slot];
        Board right = boards[other];
        if (left.columns + right.columns > 4) {
            return -5;
        }
        if (left.rows != right.rows) {
            return -6;
        }
        Board board = Board.plain(left.rows, left.columns + right.columns);
        board.kinds.replaceAll((point, kind) -> how);
        board.kinds.putAll(left.kinds);
        right.kinds.forEach((point, kind) -> board.kinds.put(point + 2 * left.columns, kind));
        become(to, board);
        return board.columns;
    }

    int alike(int slot, int other) {
        if (none(slot) || none(other)) {
            return -2;
        }
        Set<Board> all = new HashSet<>();
        for (Board board : List.of(boards[slot], boards[slot].mirrored())) {
            all.addAll(List.of(board, board.turned(), board.turned().turned(), board.turned().turned().turned()));
        }
        return all.contains(boards[other]) ? 1 : 0;
    }

    int same(int slot, int what) {
        if (none(slot) || what < 0 || what > 3) {
            return -2;
        }
        Board board = boards[slot];
        List<Board> others = List.of(board.turned(), board.turned().turned(), board.mirrored(),
                board.mirrored().turned().turned());
        return others.get(what).equals(board) ? 1 : 0;
    }

    long plain(int r, int c) {
        if (r < 1 || r > 9999 || c < 1 || c > 9999) {
            return -2;
        }
        return r > 60 || c > 60 ? UNKNOWN : linesOfCrosses(r, c);
    }

    /** A ball on a table without walls inside, counted by the rim points that it has not touched yet. */
    private static int linesOfCrosses(int r, int c) {
        Set<Integer> seen = new HashSet<>();
        int found = 0;
        for (int first = 1; first < 2 * c; first += 2) {
            int x = first;
            int y = 0;
            int dx = 1;
            int dy = 1;
            if (!seen.contains(first)) {
                found++;
                do {
                    if (y == 0) {
                        seen.add(x);
                    }
                    x += dx;
                    y += dy;
                    dx = x == 0 || x == 2 * c ? -dx : dx;
                    dy = y == 0 || y == 2 * r ? -dy : dy;
                } while (x != first || y != 0 || dx != 1);
            }
        }
        return found;
    }

    int drops(int slot) {
        if (slot < 0 || slot > 2) {
            return -2;
        }
        int had = boards[slot] == null ? 0 : 1;
        become(slot, null);
        return had;
    }

    int undo() {
        if (earlier.isEmpty()) {
            return -1;
        }
        boards = earlier.removeLast();
        return earlier.size();
    }

    // ---- told ----

    int tell(int slot, int what) {
        if (none(slot) || what < 0 || what > 1) {
            return -2;
        }
        out = (what == 0 ? textOf(boards[slot]) : paintOf(slot)).getBytes(java.nio.charset.StandardCharsets.US_ASCII);
        return out.length;
    }

    static String textOf(Board board) {
        StringBuilder text = new StringBuilder("grid " + board.rows + " " + board.columns + ";");
        for (int kind = 1; kind < 4; kind++) {
            List<String> edges = new ArrayList<>();
            for (int point : board.points()) {
                if (board.kinds.get(point) == kind) {
                    edges.add(board.cellBefore(point) + (Board.isBelow(point) ? " below" : " right"));
                }
            }
            if (!edges.isEmpty()) {
                text.append(List.of("turn ", "wall ", "gap ").get(kind - 1)).append(String.join(",", edges)).append(";");
            }
        }
        return text.toString();
    }

    private String paintOf(int slot) {
        StringBuilder text = new StringBuilder();
        for (int line = 0; line < 2 * boards[slot].rows; line++) {
            for (int column = 0; column < boards[slot].columns; column++) {
                int cell = line / 2 * boards[slot].columns + column;
                text.append(paint(slot, cell, line % 2 == 0 ? 3 : 2)).append(paint(slot, cell, line % 2 == 0 ? 0 : 1));
            }
            text.append("\n");
        }
        return text.toString();
    }

    int octet(int i) {
        return i < 0 || i >= out.length ? -1 : out[i];
    }
}

/** The sentences of promises 17 to 32. */
final class Sentences17To32 extends Checks {
    private static final String TWO = "grid 2 2;";
    private static final String TREFOIL = "grid 2 2;gap 0 right;";
    private static final String RING = "grid 2 2;gap 0 right,0 below,1 below,2 right;";
    /** Thirteen crosses, and the same with one of them, edge 5, made a wall. */
    private static final String THIRTEEN = "grid 3 4;wall 0 right,0 below,1 right,1 below;turn 8 right;";
    private static final String TWELVE = "grid 3 4;wall 0 right,0 below,1 right,1 below,2 below;turn 8 right;";
    private static final long NO_TERM = -1000000000L;

    private Sentences17To32() {
    }

    // ---- 17 sign, 18 twist, 19 link ----

    @Says(at = "Promise 17", words = "The SIGN of a CROSS: 1 plus, 0 minus.")
    static void promise17_plusAndMinus() {
        due("minus", grid("grid 1 2;").sign(0, 0), 0);
        due("plus", grid("grid 1 2;turn 0 right;").sign(0, 0), 1);
        PegStrings x = grid(TWO);
        for (int e = 0; e < 4; e++) {
            due("minus, edge " + e, x.sign(0, e), 0);
        }
        x.under(0);
        for (int e = 0; e < 4; e++) {
            due("plus, edge " + e, x.sign(0, e), 1);
        }
        due("the last edge of all", grid("grid 4 4;").sign(0, 23) >= 0 ? 1 : 0, 1);
    }

    @Says(at = "Promise 17", words = "NONE: the EDGE is none")
    static void promise17_noneNoCross() {
        refuses("grid 2 2;wall 0 right;gap 0 below;", "a wall, a gap", -1, (x, n) -> x.sign(0, n), 0, 1);
    }

    @Says(at = "Promise 17", words = "-2.")
    static void promise17_refused() {
        refuses(TWO, "edge", -2, (x, n) -> x.sign(0, n), -1, 4, MIN, MAX);
        refuses("grid 1 1;", "edge of one cell", -2, (x, n) -> x.sign(0, n), -1, 0);
        refuses(TWO, "slot", -2, (x, n) -> x.sign(n, 0), NO_GRIDS);
    }

    @Says(at = "Promise 18", words = "TWIST: the CROSSES of a STRAND with itself that are plus, less those that are minus.")
    static void promise18_twist() {
        due("three minus", grid("grid 1 4;").twist(0, 0), -3);
        due("one plus, two minus", grid("grid 1 4;turn 2 right;").twist(0, 0), -1);
        due("three plus", grid("grid 1 4;turn 0 right,1 right,2 right;").twist(0, 0), 3);
        due("those with others count not", grid(TWO).twist(0, 0), 0);
        due("without crosses", grid("grid 1 1;").twist(0, 0), 0);
    }

    @Says(at = "Promise 18", words = "-1000: there are none such.")
    static void promise18_noneSuch() {
        refuses(TWO, "strand", -1000, (x, n) -> x.twist(0, n), -1, 2, MIN, MAX);
        refuses(TWO, "slot", -1000, (x, n) -> x.twist(n, 0), NO_GRIDS);
    }

    @Says(at = "Promise 19", words = "LINK of two unlike STRANDS: half of the CROSSES of both that are plus, less those that are minus.")
    static void promise19_link() {
        PegStrings x = grid(TWO);
        due("four minus", x.link(0, 0, 1), -2);
        due("the other way", x.link(0, 1, 0), -2);
        x.sets(0, 0, 1);
        due("one plus, three minus", x.link(0, 1, 0), -1);
        x.sets(0, 1, 1);
        due("two and two", x.link(0, 0, 1), 0);
        x.sets(0, 2, 1);
        x.sets(0, 3, 1);
        due("four plus", x.link(0, 0, 1), 2);
        due("where they do not meet", grid("grid 1 2;wall 0 right;").link(0, 0, 1), 0);
        due("crosses with themselves count not", grid("grid 1 4;wall 1 right;").link(0, 0, 1), 0);
    }

    @Says(at = "Promise 19", words = "-1000: there are none such.")
    static void promise19_noneSuch() {
        refuses(TWO, "like ones", -1000, (x, n) -> x.link(0, n, n), 0, 1, -1, 2, MIN, MAX);
        refuses(TWO, "a", -1000, (x, n) -> x.link(0, n, 0), -1, 2, MIN, MAX);
        refuses(TWO, "b", -1000, (x, n) -> x.link(0, 0, n), -1, 2, MIN, MAX);
        refuses(TWO, "slot", -1000, (x, n) -> x.link(n, 0, 1), NO_GRIDS);
    }

    // ---- 20 alternates, 21 passed, 22 interlaced ----

    @Says(at = "Promise 20", words = "1 if a STRAND is OVER and UNDER in turn as its WALK goes")
    static void promise20_inTurn() {
        PegStrings x = grid("grid 4 4;");
        for (int s = 0; s < 4; s++) {
            due("strand " + s, x.alternates(0, s), 1);
        }
        x.under(0);
        due("all turned", x.alternates(0, 2), 1);
        due("the trefoil", grid(TREFOIL).alternates(0, 0), 1);
    }

    @Says(at = "Promise 20", words = "(round, too")
    static void promise20_inTurnRound() {
        // Two passings: in turn from the first to the last, and from the last to the first again.
        PegStrings x = grid("grid 2 2;gap 0 right,2 right;");
        due("over, under", x.alternates(0, 0), 1);
        x.sets(0, 2, 1);
        due("over, over", x.alternates(0, 0), 0);
        due("under, under", x.alternates(0, 1), 0);
        // A kink at which the walk begins: its passings are the first and the last.
        x = grid("grid 1 3;turn 0 right;");
        due("passed first", x.passed(0, 0, 0), 0);
        due("passed last", x.passed(0, 0, 3), 0);
        due("one turned of two", x.alternates(0, 0), 0);
        due("none turned", grid("grid 1 3;").alternates(0, 0), 1);
    }

    @Says(at = "Promise 20", words = "one without CROSSES as well)")
    static void promise20_withoutCrosses() {
        due("one cell", grid("grid 1 1;").alternates(0, 0), 1);
        due("within a ring", grid(RING).alternates(0, 1), 1);
        PegStrings x = grid("grid 1 4;wall 0 right;turn 1 right;");
        due("beside one that is not in turn", x.alternates(0, 0), 1);
        due("that one", x.alternates(0, 1), 0);
    }

    @Says(at = "Promise 20", words = ", else 0.")
    static void promise20_elseZero() {
        PegStrings x = grid("grid 2 2;turn 0 right;");
        due("one turned", x.alternates(0, 0), 0);
        due("one turned", x.alternates(0, 1), 0);
    }

    @Says(at = "Promise 20", words = "-2.")
    static void promise20_refused() {
        refuses(TWO, "strand", -2, (x, n) -> x.alternates(0, n), -1, 2, MIN, MAX);
        refuses(TWO, "slot", -2, (x, n) -> x.alternates(n, 0), NO_GRIDS);
    }

    @Says(at = "Promise 21", words = "The i-th (from 0) CROSS, as EDGE, that the WALK of a STRAND passes.")
    static void promise21_passedFrom0() {
        PegStrings x = grid(TWO);
        int[] first = {0, 2, 3, 1};
        int[] second = {1, 3, 2, 0};
        for (int i = 0; i < 4; i++) {
            due("strand 0, " + i, x.passed(0, 0, i), first[i]);
            due("strand 1, " + i, x.passed(0, 1, i), second[i]);
        }
        x = grid("grid 1 4;turn 1 right;");
        int[] twice = {0, 1, 2, 2, 1, 0};
        for (int i = 0; i < 6; i++) {
            due("each twice, " + i, x.passed(0, 0, i), twice[i]);
        }
        x = grid("grid 3 4;wall 0 right,0 below,1 right,2 right;");
        x.oneLine(0);
        due("walls and gaps are not passed", x.passed(0, 0, 2 * x.look(0, 3)), -1);
    }

    @Says(at = "Promise 21", words = "NONE: not so many")
    static void promise21_noneNotSoMany() {
        refuses(TWO, "i", -1, (x, n) -> x.passed(0, 0, n), 4, 5, 48, MAX);
        refuses(TWO, "i", -1, (x, n) -> x.passed(0, 1, n), 4, 5, 48, MAX);
        refuses("grid 1 1;", "i without crosses", -1, (x, n) -> x.passed(0, 0, n), 0, 1, MAX);
        refuses("grid 4 3;", "i", -1, (x, n) -> x.passed(0, 0, n), 34, 48, MAX);
        due("the last of 34", grid("grid 4 3;").passed(0, 0, 33) >= 0 ? 1 : 0, 1);
    }

    @Says(at = "Promise 21", words = "-2 (i below 0, too).")
    static void promise21_refused() {
        refuses(TWO, "i below 0", -2, (x, n) -> x.passed(0, 1, n), -1, -4, MIN);
        refuses(TWO, "strand", -2, (x, n) -> x.passed(0, n, 0), -1, 2, MIN, MAX);
        refuses(TWO, "slot", -2, (x, n) -> x.passed(n, 0, 0), NO_GRIDS);
    }

    @Says(at = "Promise 22", words = "1 if two CROSSES of one STRAND with itself are passed in turn (one, the other, the one, the other, "
            + "round), else 0.")
    static void promise22_inTurnRound() {
        PegStrings x = grid(TREFOIL);
        int[][] pairs = {{1, 2}, {2, 1}, {1, 3}, {3, 1}, {2, 3}, {3, 2}};
        for (int[] pair : pairs) {
            due("the trefoil", x.interlaced(0, pair[0], pair[1]), 1);
        }
        // Edge 0 is passed first and last, 1 between: neither within the other, round, is in turn.
        x = grid("grid 1 4;");
        for (int[] pair : new int[][] {{0, 1}, {1, 0}, {0, 2}, {2, 0}, {1, 2}, {2, 1}}) {
            due("a row", x.interlaced(0, pair[0], pair[1]), 0);
        }
    }

    @Says(at = "Promise 22", words = "NONE: they are none such, unlike ones of one STRAND")
    static void promise22_noneSuch() {
        refuses(TREFOIL, "like ones", -1, (x, n) -> x.interlaced(0, n, n), 0, 1, 2, 3);
        refuses(TREFOIL, "with a gap", -1, (x, n) -> x.interlaced(0, 0, n), 1, 2, 3);
        refuses(TREFOIL, "with a gap", -1, (x, n) -> x.interlaced(0, n, 0), 1, 2, 3);
        refuses("grid 1 4;wall 1 right;", "with a wall", -1, (x, n) -> x.interlaced(0, 1, n), 0, 2);
        refuses("grid 1 4;wall 1 right;", "of two strands, each with itself", -1, (x, n) -> x.interlaced(0, n, 2 - n), 0, 2);
        refuses(TWO, "of two strands with one another", -1, (x, n) -> x.interlaced(0, n, 3 - n), 0, 1, 2, 3);
        PegStrings x = grid(TREFOIL);
        due("crosses", x.interlaced(0, 1, 2), 1);
        x.sets(0, 1, 3);
        due("crosses no more", x.interlaced(0, 1, 2), -1);
    }

    @Says(at = "Promise 22", words = "-2.")
    static void promise22_refused() {
        refuses(TREFOIL, "e", -2, (x, n) -> x.interlaced(0, n, 1), -1, 4, MIN, MAX);
        refuses(TREFOIL, "f", -2, (x, n) -> x.interlaced(0, 1, n), -1, 4, MIN, MAX);
        refuses(TREFOIL, "slot", -2, (x, n) -> x.interlaced(n, 1, 2), NO_GRIDS);
    }

    // ---- 23 visits, 24 winds, 25 paint, 26 painted ----

    @Says(at = "Promise 23", words = "CELLS in which a STRAND has a CORNER, as bits.")
    static void promise23_cellsAsBits() {
        due("one cell", grid("grid 1 1;").visits(0, 0), 1);
        PegStrings x = grid("grid 4 4;");
        x.all(0, 0, 2);
        for (int s = 0; s < 16; s++) {
            due("cell " + s, x.visits(0, s), 1 << s);
        }
        x.undo();
        x.oneLine(0);
        due("all sixteen", x.visits(0, 0), 65535);
        due("one corner in each", grid(RING).visits(0, 1), 15);
    }

    @Says(at = "Promise 23", words = "-2.")
    static void promise23_refused() {
        refuses(TWO, "strand", -2, (x, n) -> x.visits(0, n), -1, 2, MIN, MAX);
        refuses(TWO, "slot", -2, (x, n) -> x.visits(n, 0), NO_GRIDS);
    }

    @Says(at = "Promise 24", words = "How often the WALK of a STRAND goes round the middle of a CELL as a clock's hand goes, less how "
            + "often the other way.")
    static void promise24_winds() {
        PegStrings x = grid("grid 1 4;gap 1 right;");
        int[] wants = {1, -1, -1, 1};
        for (int cell = 0; cell < 4; cell++) {
            due("cell " + cell, x.winds(0, 0, cell), wants[cell]);
        }
        x = grid("grid 4 1;");
        for (int cell = 0; cell < 4; cell++) {
            due("below one another, cell " + cell, x.winds(0, 0, cell), cell % 2 == 0 ? 1 : -1);
        }
        x = grid(RING);
        for (int cell = 0; cell < 4; cell++) {
            due("the rim", x.winds(0, 0, cell), 1);
            due("round none", x.winds(0, 1, cell), 0);
        }
        x = grid("grid 1 2;wall 0 right;");
        due("not round another's", x.winds(0, 0, 1), 0);
        due("not round another's", x.winds(0, 1, 0), 0);
    }

    @Says(at = "Promise 24", words = "-1000: there are none such.")
    static void promise24_noneSuch() {
        refuses(TWO, "strand", -1000, (x, n) -> x.winds(0, n, 0), -1, 2, MIN, MAX);
        refuses(TWO, "cell", -1000, (x, n) -> x.winds(0, 0, n), -1, 4, MIN, MAX);
        refuses(TWO, "slot", -1000, (x, n) -> x.winds(n, 0, 0), NO_GRIDS);
    }

    @Says(at = "Promise 25", words = "PAINT of a CORNER: 1 if its place is odd, else 0.")
    static void promise25_oddPlaces() {
        for (String text : new String[] {"grid 1 1;", TWO, "grid 4 3;", RING}) {
            PegStrings x = grid(text);
            for (int i = 0; i < 4 * x.look(0, 0) * x.look(0, 1); i++) {
                due("corner " + i, x.paint(0, i / 4, i % 4), x.place(0, i / 4, i % 4) % 2);
            }
        }
        PegStrings x = grid("grid 1 2;");
        int[] wants = {0, 1, 0, 1, 1, 0, 1, 0};
        for (int i = 0; i < 8; i++) {
            due("corner " + i, x.paint(0, i / 4, i % 4), wants[i]);
        }
    }

    @Says(at = "Promise 25", words = "-2.")
    static void promise25_refused() {
        refuses(TWO, "cell", -2, (x, n) -> x.paint(0, n, 0), -1, 4, MIN, MAX);
        refuses(TWO, "corner", -2, (x, n) -> x.paint(0, 0, n), -1, 4, MIN, MAX);
        refuses(TWO, "slot", -2, (x, n) -> x.paint(n, 0, 0), NO_GRIDS);
    }

    @Says(at = "Promise 26", words = "How many CORNERS of PAINT 1 there are in a row (0), a column (1) of CELLS.")
    static void promise26_rowsAndColumns() {
        PegStrings x = grid("grid 2 3;turn 0 below;wall 1 right;gap 1 below;");
        for (int row = 0; row < 2; row++) {
            int sum = 0;
            for (int i = 0; i < 12; i++) {
                sum += x.paint(0, 3 * row + i / 4, i % 4);
            }
            due("row " + row, x.painted(0, 0, row), sum);
        }
        for (int column = 0; column < 3; column++) {
            int sum = 0;
            for (int i = 0; i < 8; i++) {
                sum += x.paint(0, column + i / 4 * 3, i % 4);
            }
            due("column " + column, x.painted(0, 1, column), sum);
        }
        x = grid("grid 1 1;");
        due("one cell's row", x.painted(0, 0, 0), 2);
        due("one cell's column", x.painted(0, 1, 0), 2);
    }

    @Says(at = "Promise 26", words = "-2.")
    static void promise26_refused() {
        refuses("grid 2 3;", "row", -2, (x, n) -> x.painted(0, 0, n), -1, 2, MIN, MAX);
        refuses("grid 2 3;", "column", -2, (x, n) -> x.painted(0, 1, n), -1, 3, MIN, MAX);
        refuses("grid 2 3;", "neither", -2, (x, n) -> x.painted(0, n, 0), -1, 2, MIN, MAX);
        refuses("grid 2 3;", "slot", -2, (x, n) -> x.painted(n, 0, 0), NO_GRIDS);
    }

    // ---- 27 loops, 28 settings, 29 bracket, 30 smooth ----

    @Says(at = "Promise 27", words = "How many LOOPS there are, if each CROSS, by numbers, becomes a GAP (its bit 1) or a WALL (0).")
    static void promise27_gapsAndWallsByBits() {
        due("one cell, no cross", grid("grid 1 1;").loops(0, 0L), 1);
        PegStrings x = grid("grid 4 4;");
        due("all walls", x.loops(0, 0L), 16);
        due("all gaps", x.loops(0, (1L << 24) - 1), 10);
        for (int bit = 0; bit < 24; bit++) {
            due("one gap, bit " + bit, x.loops(0, 1L << bit), 15);
        }
        // Crosses by their numbers, turned or not, what is none left out: the edges 1 and 2.
        x = grid("grid 1 4;wall 0 right;turn 1 right;");
        due("walls", x.loops(0, 0L), 4);
        due("the first", x.loops(0, 1L), 3);
        due("the second", x.loops(0, 2L), 3);
        due("both", x.loops(0, 3L), 2);
        // A square of pegs: edge 0 a gap already, with all four gaps there is a loop within.
        x = grid(TREFOIL);
        due("two of three", x.loops(0, 3L), 1);
        due("all three", x.loops(0, 7L), 2);
        due("the grid stays", x.look(0, 3), 3);
        due("no act", x.count(1), 1);
        tells(x, 1, "grid 4 4;");
        int[] wants = {3, 2, 2, 1, 2, 1, 1, 2};
        for (int set = 0; set < 8; set++) {
            due("of one slot of two, " + set, x.loops(0, set), wants[set]);
        }
        due("of the other one", x.loops(1, 0L), 16);
    }

    @Says(at = "Promise 27", words = "-2 (bits of none, too).")
    static void promise27_refused() {
        refuses("grid 4 4;", "bit", -2, (x, n) -> x.loops(0, 1L << n), 24, 25, 31, 32, 33, 62, 63);
        refuses("grid 4 4;", "bits", -2, (x, n) -> x.loops(0, n), -1, MIN, 1 << 24);
        refuses("grid 1 1;", "bits without crosses", -2, (x, n) -> x.loops(0, n), 1, 2, -1, MIN, MAX);
        refuses(TREFOIL, "bits of three", -2, (x, n) -> x.loops(0, n), 8, 9, 15, 16);
        refuses(TREFOIL, "set wide", -2, (x, n) -> x.loops(0, (long) n << 32), 1, -1, MIN, MAX);
        refuses(TREFOIL, "slot", -2, (x, n) -> x.loops(n, 0L), NO_GRIDS);
    }

    @Says(at = "Promise 28", words = "Of all such ways how many have n (0 and more) LOOPS.")
    static void promise28_waysWithLoops() {
        due("one cell, no loops", grid("grid 1 1;").settings(0, 0), 0);
        due("one cell, one loop", grid("grid 1 1;").settings(0, 1), 1);
        due("one cell, two loops", grid("grid 1 1;").settings(0, 2), 0);
        due("one cell, very many", grid("grid 1 1;").settings(0, MAX), 0);
        PegStrings x = grid(TWELVE);
        due("twelve crosses", x.look(0, 3), 12);
        int sum = 0;
        for (int n = 0; n <= 20; n++) {
            sum += x.settings(0, n);
        }
        due("all ways", sum, 4096);
        // One grid behind another in one object.
        int[] square = {0, 4, 7, 4, 1, 0};
        tells(x, 1, TWO);
        tells(x, 2, RING);
        for (int n = 0; n < 6; n++) {
            due("four crosses, " + n, x.settings(1, n), square[n]);
            due("no crosses, " + n, x.settings(2, n), n == 2 ? 1 : 0);
        }
        x = grid("grid 4 4;");
        x.all(0, 0, 2);
        due("no cross, sixteen loops", x.settings(0, 16), 1);
        due("no cross, seventeen", x.settings(0, 17), 0);
        for (String text : new String[] {TWELVE, "grid 3 3;", "grid 3 4;gap 0 right,5 right,10 right,3 below;wall 1 below;"}) {
            int[] wants = loopsOfAllWays(text);
            x = grid(text);
            for (int n = 0; n < wants.length; n++) {
                due(text + " " + n, x.settings(0, n), wants[n]);
            }
        }
    }

    /** How many ways have how many loops, asked of loops() way by way. */
    private static int[] loopsOfAllWays(String text) {
        int[] found = new int[18];
        PegStrings x = grid(text);
        int ways = ways(x);
        for (int set = 0; set < ways; set++) {
            // No object is asked for more than it promises.
            x = set % 400 == 0 ? grid(text) : x;
            found[x.loops(0, set)]++;
        }
        return found;
    }

    @Says(at = "Promise 28", words = "-5: there are more than 12 CROSSES")
    static void promise28_moreThan12() {
        refuses(THIRTEEN, "n", -5, (x, n) -> x.settings(0, n), 0, 1, 5, MAX);
        refuses("grid 4 4;", "n", -5, (x, n) -> x.settings(0, n), 0, 1, 16);
        due("twelve are not too many", grid(TWELVE).settings(0, 0), 0);
    }

    @Says(at = "Promise 28", words = "-2.")
    static void promise28_refused() {
        refuses(TWO, "n", -2, (x, n) -> x.settings(0, n), -1, MIN);
        refuses(TWO, "slot", -2, (x, n) -> x.settings(n, 1), NO_GRIDS);
    }

    @Says(at = "Promise 29", words = "BRACKET: what A to the k (k -100 .. 100) is taken by.")
    static void promise29_bracket() {
        PegStrings x = grid(TREFOIL);
        for (int k = -100; k <= 100; k++) {
            due("the trefoil, A to the " + k, x.bracket(0, k), k == -7 ? 1 : k == -3 || k == 5 ? -1 : 0);
        }
        // Others behind it in one object: Hopf's link, a kink, two loops.
        String[] texts = {"grid 2 2;gap 0 right,2 right;", "grid 1 2;", RING};
        int[][] wants = {{4, -1, -4, -1}, {-3, -1, 0, 0}, {2, -1, -2, -1}};
        x = grid(TREFOIL);
        for (int i = 0; i < 3; i++) {
            tells(x, 0, texts[i]);
            for (int k = -12; k <= 12; k++) {
                int want = k == wants[i][0] ? wants[i][1] : k == wants[i][2] ? wants[i][3] : 0;
                due(texts[i] + ", A to the " + k, x.bracket(0, k), want);
            }
        }
        x = grid("grid 4 4;");
        x.all(0, 0, 2);
        due("sixteen loops, the highest", x.bracket(0, 30), -1);
        due("sixteen loops, above it", x.bracket(0, 34), 0);
        due("sixteen loops, the lowest", x.bracket(0, -30), -1);
        due("the edges of k", x.bracket(0, 100) + x.bracket(0, -100), 0);
    }

    @Says(at = "Promise 29", words = "-1000000000: there are more than 12 CROSSES")
    static void promise29_moreThan12() {
        refuses(THIRTEEN, "k", NO_TERM, (x, n) -> x.bracket(0, n), -100, -1, 0, 1, 100);
        due("twelve are not too many", grid(TWELVE).bracket(0, 99), 0);
    }

    @Says(at = "Promise 29", words = ", none such.")
    static void promise29_noneSuch() {
        refuses(TREFOIL, "k", NO_TERM, (x, n) -> x.bracket(0, n), -101, 101, MIN, MAX);
        refuses(TREFOIL, "slot", NO_TERM, (x, n) -> x.bracket(n, 0), NO_GRIDS);
    }

    @Says(at = "Promise 30", words = "BRACKET, made so that kinks make no difference: what A to the k (k -100 .. 100) is taken by.")
    static void promise30_smooth() {
        PegStrings x = grid(TREFOIL);
        int hand = x.twist(0, 0) > 0 ? -1 : 1;
        for (int k = -100; k <= 100; k++) {
            int want = k == 4 * hand || k == 12 * hand ? 1 : k == 16 * hand ? -1 : 0;
            due("the trefoil, A to the " + k, x.smooth(0, k), want);
        }
        // Twelve kinks of one sign move all by 36: those of k far off are asked from beyond the bracket's edges.
        x = grid("grid 4 4;wall 0 below,1 below,2 below,5 below,6 below,7 below,8 below,9 below,10 below;turn 3 below;");
        due("one strand", x.look(0, 7), 1);
        due("fifteen kinks are too many", x.smooth(0, 0), NO_TERM);
        x.all(0, 1, 3);
        x.sets(0, 0, 3);
        x.sets(0, 2, 3);
        due("twelve kinks", x.look(0, 3), 12);
        due("all of one sign", Math.abs(x.twist(0, 0)), 12);
        for (int k = -100; k <= 100; k++) {
            due("twelve kinks, A to the " + k, x.smooth(0, k), k == 0 ? 1 : 0);
        }
    }

    @Says(at = "Promise 30", words = "-1000000000 likewise.")
    static void promise30_likewise() {
        refuses(THIRTEEN, "k of too many", NO_TERM, (x, n) -> x.smooth(0, n), -100, -1, 0, 1, 100);
        refuses(TREFOIL, "k", NO_TERM, (x, n) -> x.smooth(0, n), -101, 101, MIN, MAX);
        refuses(TREFOIL, "slot", NO_TERM, (x, n) -> x.smooth(n, 0), NO_GRIDS);
        due("twelve are not too many", grid(TWELVE).smooth(0, 99), 0);
    }

    // ---- 31 trees, 32 colours ----

    @Says(at = "Promise 31", words = "TREES: in how many ways all CELLS (those with a GAP between are one) hang together by just as many "
            + "CROSSES as are needed")
    static void promise31_trees() {
        due("one cell needs none", grid("grid 1 1;").trees(0), 1);
        due("all one by gaps", grid(RING).trees(0), 1);
        due("a square", grid(TWO).trees(0), 4);
        due("turned ones are crosses", grid("grid 2 2;turn 0 right,2 right;").trees(0), 4);
        due("two cells one", grid(TREFOIL).trees(0), 3);
        due("a cross within one cell of many", grid("grid 2 2;gap 0 right,0 below,1 below;").trees(0), 1);
        due("the most", grid("grid 4 4;").trees(0), 100352);
        // Each tree has a cross or has it not: as many as with a gap there, and as with a wall.
        for (String text : new String[] {"grid 4 4;", "grid 3 3;turn 4 right;", "grid 3 4;gap 1 below,2 right,5 right,8 right,6 below;",
            "grid 4 3;gap 0 below,3 right,7 right,4 below;wall 9 right,1 right;"}) {
            PegStrings x = grid(text);
            long all = x.trees(0);
            for (int e = 0; e < x.look(0, 2); e++) {
                if (x.edge(0, e) < 2) {
                    x.sets(0, e, 2);
                    long without = x.trees(0);
                    x.sets(0, e, 3);
                    due(text + " edge " + e, without + x.trees(0), all);
                    x.sets(0, e, 0);
                }
            }
        }
    }

    @Says(at = "Promise 31", words = "(0: they can not)")
    static void promise31_zeroTheyCanNot() {
        due("two cells", grid("grid 1 2;wall 0 right;").trees(0), 0);
        due("the first cell apart", grid("grid 4 4;wall 0 right,0 below;").trees(0), 0);
        due("the last cell apart", grid("grid 4 4;wall 11 below,14 right;").trees(0), 0);
        due("one within", grid("grid 3 3;wall 1 below,3 right,4 right,4 below;").trees(0), 0);
        due("two halves", grid("grid 2 4;wall 1 right,5 right;").trees(0), 0);
        due("two halves of gaps", grid("grid 1 4;gap 0 right,2 right;wall 1 right;").trees(0), 0);
        PegStrings x = grid("grid 4 4;");
        x.all(0, 0, 2);
        due("walls alone", x.trees(0), 0);
    }

    @Says(at = "Promise 31", words = "-2.")
    static void promise31_refused() {
        refuses(TWO, "slot", -2, (x, n) -> x.trees(n), NO_GRIDS);
    }

    @Says(at = "Promise 32", words = "COLOURS modulo p (2, 3, 5, 7, 11, 13): to which power p is how many there are.")
    static void promise32_colours() {
        int[] primes = {2, 3, 5, 7, 11, 13};
        for (int p : primes) {
            due("one loop, " + p, grid("grid 1 1;").colours(0, p), 1);
            due("two loops, " + p, grid("grid 1 2;wall 0 right;").colours(0, p), 2);
            due("the trefoil, " + p, grid(TREFOIL).colours(0, p), p == 3 ? 2 : 1);
            PegStrings x = grid("grid 4 4;");
            x.all(0, 0, 2);
            due("sixteen loops, " + p, x.colours(0, p), 16);
        }
        // Six pegs in two rows: a line of 15 trees, with numbers of its own modulo 3 and 5; all turned, too, so that the
        // walk begins under a cross; and with others ahead of it in one object.
        PegStrings x = grid("grid 2 3;");
        for (int turn = 0; turn < 2; turn++) {
            for (int p : primes) {
                due("2 by 3, " + p, x.colours(0, p), p == 3 || p == 5 ? 2 : 1);
            }
            x.under(0);
        }
        String[] alike = {"grid 3 4;", "grid 2 2;", "grid 4 4;", "grid 3 3;gap 4 right;", "grid 3 4;wall 0 right;", TREFOIL};
        for (String text : alike) {
            tells(x, 0, text);
            for (int turn = 0; turn < 2; turn++) {
                for (int p : primes) {
                    due(text + " " + p, x.colours(0, p) > 1 ? 1 : 0, x.trees(0) % p == 0 ? 1 : 0);
                }
                x.under(0);
            }
        }
        // What lies apart has numbers of its own.
        tells(x, 0, "grid 2 4;wall 1 right,5 right;gap 0 right,2 right;");
        due("two trefoils apart", x.colours(0, 3), 4);
        due("two trefoils apart", x.colours(0, 5), 2);
    }

    @Says(at = "Promise 32", words = "-2.")
    static void promise32_refused() {
        refuses(TREFOIL, "p", -2, (x, n) -> x.colours(0, n), -13, -3, -2, -1, 0, 1, 4, 6, 8, 9, 10, 12, 14, 15, 17, MIN, MAX);
        refuses(TREFOIL, "slot", -2, (x, n) -> x.colours(n, 3), NO_GRIDS);
    }
}

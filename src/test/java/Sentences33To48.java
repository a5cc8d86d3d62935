/** The sentences of promises 33 to 48. */
final class Sentences33To48 extends Checks {
    private static final String ALL = "grid 2 2;turn 0 below;wall 1 below;gap 2 right;";
    private static final String TWO = "grid 2 2;";
    private static final String RING = "grid 2 2;gap 0 right,0 below,1 below,2 right;";

    private Sentences33To48() {
    }

    // ---- 33 needs, 34 oneLine, 35 eases ----

    /** The fewest crosses that must become walls or gaps, found by trying all ways; -1 where none will do. */
    private static int fewest(String text) {
        PegStrings x = grid(text);
        int edges = x.look(0, 2);
        int least = -1;
        int[] kinds = new int[edges];
        for (int e = 0; e < edges; e++) {
            kinds[e] = x.edge(0, e);
        }
        for (int way = 0; way < Math.pow(3, edges); way++) {
            // A new object each time: none is asked for more calls than the document promises.
            x = grid(text);
            int changed = 0;
            int rest = way;
            boolean isWay = true;
            for (int e = 0; e < edges; e++) {
                int how = rest % 3;
                rest /= 3;
                isWay = isWay && (how == 0 || kinds[e] < 2);
                changed += how > 0 ? 1 : 0;
                x.sets(0, e, how == 0 ? kinds[e] : how + 1);
            }
            if (isWay && x.look(0, 7) == 1 && (least < 0 || changed < least)) {
                least = changed;
            }
        }
        return least;
    }

    @Says(at = "Promise 33", words = "How many CROSSES must become WALLS, GAPS at least so that there is one STRAND.")
    static void promise33_fewestCrosses() {
        due("none: it is one", grid("grid 1 1;").needs(0), 0);
        due("none: it is one", grid("grid 4 3;").needs(0), 0);
        due("three", grid("grid 4 4;").needs(0), 3);
        for (String text : new String[] {TWO, "grid 2 2;turn 0 below;gap 0 right,2 right;", "grid 2 3;wall 0 right;",
            "grid 2 3;gap 1 right,4 right;", ALL}) {
            due(text, grid(text).needs(0), fewest(text));
        }
        PegStrings x = grid(TWO);
        x.needs(0);
        due("no act", x.count(1), 1);
        due("the grid stays", x.look(0, 3), 4);
    }

    @Says(at = "Promise 33", words = "NONE: it can not be so")
    static void promise33_noneItCanNot() {
        for (String text : new String[] {"grid 1 2;wall 0 right;", RING, "grid 2 2;wall 0 right,2 right;",
            "grid 1 4;wall 1 right;"}) {
            due("all ways of " + text, fewest(text), -1);
            due(text, grid(text).needs(0), -1);
        }
        due("one within", grid("grid 3 3;wall 1 below,3 right,4 right,4 below;").needs(0), -1);
    }

    @Says(at = "Promise 33", words = "-2.")
    static void promise33_refused() {
        refuses(TWO, "slot", -2, (x, n) -> x.needs(n), NO_GRIDS);
    }

    @Says(at = "Promise 34", words = "ONE LINE: as long as there is a CROSS of two STRANDS, the first one becomes a WALL: how many did.")
    static void promise34_oneLine() {
        PegStrings x = grid(TWO);
        due("one", x.oneLine(0), 1);
        dueText("the first one", textIn(x, 0), "grid 2 2;wall 0 right;");
        x = grid("grid 2 2;turn 0 right;");
        due("a turned one", x.oneLine(0), 1);
        dueText("the first one", textIn(x, 0), "grid 2 2;wall 0 right;");
        x = grid("grid 4 4;");
        due("three", x.oneLine(0), 3);
        due("walls", x.look(0, 5), 3);
        due("one strand", x.look(0, 7), 1);
        due("an act", x.count(1), 2);
        due("none", x.oneLine(0), 0);
        due("no act", x.count(1), 2);
        due("none of one cell", grid("grid 1 1;").oneLine(0), 0);
        // A square of two strands with a kink ahead of it: the kink, edge 0, stays; the first of two strands is edge 2.
        x = grid("grid 2 3;wall 0 below;gap 3 right;");
        due("two strands", x.look(0, 7), 2);
        due("one", x.oneLine(0), 1);
        dueText("not the first cross", textIn(x, 0), "grid 2 3;wall 0 below,1 right;gap 3 right;");
    }

    @Says(at = "Promise 34", words = "-6: there would be more than one STRAND")
    static void promise34_moreThanOne() {
        refuses("grid 1 2;wall 0 right;", "oneLine", -6, (x, n) -> x.oneLine(n), 0);
        refuses(RING, "oneLine", -6, (x, n) -> x.oneLine(n), 0);
        refuses("grid 2 4;wall 1 right,5 right;", "oneLine, though crosses of two would become walls", -6,
                (x, n) -> x.oneLine(n), 0);
    }

    @Says(at = "Promise 34", words = "-2.")
    static void promise34_refused() {
        refuses(TWO, "slot", -2, (x, n) -> x.oneLine(n), NO_GRIDS);
    }

    @Says(at = "Promise 35", words = "EASED: as long as there is a KINK, the first one becomes a WALL, or a GAP, so that there are as many "
            + "STRANDS as there were: how many did.")
    static void promise35_eased() {
        PegStrings x = grid("grid 1 4;turn 2 right;");
        due("one behind another", x.eases(0), 3);
        dueText("gaps", textIn(x, 0), "grid 1 4;gap 0 right,1 right,2 right;");
        due("an act, one for all", x.count(1), 2);
        due("none any more", x.eases(0), 0);
        due("no act", x.count(1), 2);
        x.undo();
        due("all undone", x.look(0, 3), 3);
        x = grid("grid 2 2;gap 0 right,0 below,1 below;");
        due("one", x.eases(0), 1);
        dueText("a wall", textIn(x, 0), "grid 2 2;wall 2 right;gap 0 right,0 below,1 below;");
        x = grid("grid 1 4;wall 1 right;");
        due("of two strands each", x.eases(0), 2);
        due("two they stay", x.look(0, 7), 2);
        tells(x, 0, "grid 1 2;");
        tells(x, 1, "grid 4 4;");
        due("of one slot of two", x.eases(0), 1);
        dueText("a gap", textIn(x, 0), "grid 1 2;gap 0 right;");
        dueText("the other one stays", textIn(x, 1), "grid 4 4;");
        due("none of two strands", grid(TWO).eases(0), 0);
        due("none of one cell", grid("grid 1 1;").eases(0), 0);
    }

    @Says(at = "Promise 35", words = "-2.")
    static void promise35_refused() {
        refuses("grid 1 4;", "slot", -2, (x, n) -> x.eases(n), NO_GRIDS);
    }

    // ---- 36 sets, 37 all, 38 under ----

    @Says(at = "Promise 36", words = "An EDGE becomes otherwise (0 .. 3): how it was.")
    static void promise36_becomesOtherwise() {
        for (int before = 0; before < 4; before++) {
            for (int how = 0; how < 4; how++) {
                PegStrings x = grid(ALL);
                due("how it was", x.sets(0, before, how), before);
                due("how it is", x.edge(0, before), how);
                due("an act, if it is otherwise", x.count(1), before == how ? 1 : 2);
                for (int e = 0; e < 4; e++) {
                    due("the others stay", x.edge(0, e), e == before ? how : e);
                }
            }
        }
        PegStrings x = grid("grid 4 4;");
        due("the last edge", x.sets(0, 23, 3), 0);
        due("it is a gap", x.edge(0, 23), 3);
    }

    @Says(at = "Promise 36", words = "-2.")
    static void promise36_refused() {
        refuses(ALL, "edge", -2, (x, n) -> x.sets(0, n, 1), -1, 4, MIN, MAX);
        refuses(ALL, "how", -2, (x, n) -> x.sets(0, 0, n), -1, 4, MIN, MAX);
        refuses("grid 4 4;", "edge", -2, (x, n) -> x.sets(0, n, 1), -1, 24, MIN, MAX);
        refuses("grid 1 1;", "edge of one cell", -2, (x, n) -> x.sets(0, n, 1), 0);
        refuses(ALL, "slot", -2, (x, n) -> x.sets(n, 0, 1), NO_GRIDS);
    }

    @Says(at = "Promise 37", words = "All EDGES that are one way become another one: how many did")
    static void promise37_allOfOneWay() {
        for (int how = 0; how < 4; how++) {
            for (int then = 0; then < 4; then++) {
                if (how != then) {
                    PegStrings x = grid(ALL);
                    due("one", x.all(0, how, then), 1);
                    for (int e = 0; e < 4; e++) {
                        due("edge " + e, x.edge(0, e), e == how ? then : e);
                    }
                    due("none any more", x.all(0, how, then), 0);
                    due("one act", x.count(1), 2);
                }
            }
        }
        PegStrings x = grid("grid 4 4;");
        due("all of them", x.all(0, 0, 3), 24);
        due("one act", x.count(1), 2);
        due("turned ones are another way than crosses", x.all(0, 1, 2), 0);
        tells(x, 1, "grid 1 2;");
        tells(x, 2, "grid 3 3;");
        due("of one slot of three", x.all(1, 0, 3), 1);
        dueText("a gap", textIn(x, 1), "grid 1 2;gap 0 right;");
        dueText("another one stays", textIn(x, 2), "grid 3 3;");
        due("none of one cell", grid("grid 1 1;").all(0, 0, 1), 0);
    }

    @Says(at = "Promise 37", words = "(0, if these are one)")
    static void promise37_zeroIfOne() {
        refuses(ALL, "all", 0, (x, n) -> x.all(0, n, n), 0, 1, 2, 3);
        refuses("grid 4 4;", "all", 0, (x, n) -> x.all(0, n, n), 0, 1, 2, 3);
    }

    @Says(at = "Promise 37", words = "-2.")
    static void promise37_refused() {
        refuses(ALL, "how", -2, (x, n) -> x.all(0, n, 0), -1, 4, MIN, MAX);
        refuses(ALL, "then", -2, (x, n) -> x.all(0, 0, n), -1, 4, MIN, MAX);
        refuses(ALL, "both, though they are one", -2, (x, n) -> x.all(0, n, n), -1, 4, MIN, MAX);
        refuses(ALL, "slot", -2, (x, n) -> x.all(n, 0, 1), NO_GRIDS);
        refuses(ALL, "slot, though they are one", -2, (x, n) -> x.all(n, 1, 1), NO_GRIDS);
    }

    @Says(at = "Promise 38", words = "All CROSSES are turned: how many there are.")
    static void promise38_turned() {
        PegStrings x = grid(ALL);
        due("two", x.under(0), 2);
        dueText("turned", textIn(x, 0), "grid 2 2;turn 0 right;wall 1 below;gap 2 right;");
        due("two again", x.under(0), 2);
        dueText("as they were", textIn(x, 0), ALL);
        tells(x, 1, "grid 1 2;");
        due("of one slot of two", x.under(0), 2);
        dueText("turned", textIn(x, 0), "grid 2 2;turn 0 right;wall 1 below;gap 2 right;");
        dueText("the other one stays", textIn(x, 1), "grid 1 2;");
        due("all 24", grid("grid 4 4;").under(0), 24);
        due("none", grid("grid 1 1;").under(0), 0);
        refuses(RING, "under without crosses", 0, (y, n) -> y.under(n), 0);
    }

    @Says(at = "Promise 38", words = "-2.")
    static void promise38_refused() {
        refuses(ALL, "slot", -2, (x, n) -> x.under(n), NO_GRIDS);
    }

    // ---- 39 quarter, 40 mirror, 41 beside ----

    @Says(at = "Promise 39", words = "The GRID is turned by a quarter, as a clock's hand goes: R then.")
    static void promise39_quarter() {
        PegStrings x = grid("grid 1 4;turn 0 right;gap 2 right;");
        due("four rows", x.quarter(0), 4);
        dueText("the left one is above", textIn(x, 0), "grid 4 1;turn 0 below;gap 2 below;");
        due("one row", x.quarter(0), 1);
        dueText("the left one is right", textIn(x, 0), "grid 1 4;turn 2 right;gap 0 right;");
        x = grid(ALL);
        due("two rows", x.quarter(0), 2);
        // The edge right of cell 0 comes below cell 1, the one below cell 0 above, and so on, round.
        dueText("a square", textIn(x, 0), "grid 2 2;turn 0 right;wall 2 right;gap 0 below;");
        refuses("grid 1 1;", "quarter of one cell", 1, (y, n) -> y.quarter(n), 0);
        refuses("grid 4 4;", "quarter of what stays", 4, (y, n) -> y.quarter(n), 0);
    }

    @Says(at = "Promise 39", words = "-2.")
    static void promise39_refused() {
        refuses("grid 1 4;", "slot", -2, (x, n) -> x.quarter(n), NO_GRIDS);
    }

    @Says(at = "Promise 40", words = "The GRID is mirrored, left and right changed over (a CROSS becomes turned, a turned one not): STRANDS.")
    static void promise40_mirror() {
        PegStrings x = grid("grid 1 4;turn 0 right;gap 1 right;");
        due("strands", x.mirror(0), 1);
        dueText("left and right", textIn(x, 0), "grid 1 4;turn 0 right;gap 1 right;");
        due("no act", x.count(1), 1);
        x = grid("grid 1 4;turn 0 right;wall 1 right;gap 2 right;");
        due("strands", x.mirror(0), 2);
        dueText("left and right", textIn(x, 0), "grid 1 4;wall 1 right;gap 0 right;");
        x = grid("grid 4 1;turn 0 below;wall 1 below;gap 2 below;");
        due("strands", x.mirror(0), 2);
        dueText("above stays above", textIn(x, 0), "grid 4 1;wall 1 below;gap 2 below;");
        x = grid(ALL);
        x.mirror(0);
        dueText("a square", textIn(x, 0), "grid 2 2;turn 0 right;wall 0 below;gap 2 right;");
        due("four strands", grid("grid 4 4;").mirror(0), 4);
        refuses("grid 1 1;", "mirror of one cell", 1, (y, n) -> y.mirror(n), 0);
        refuses(RING, "mirror of what stays", 2, (y, n) -> y.mirror(n), 0);
    }

    @Says(at = "Promise 40", words = "-2.")
    static void promise40_refused() {
        refuses("grid 1 4;", "slot", -2, (x, n) -> x.mirror(n), NO_GRIDS);
    }

    @Says(at = "Promise 41", words = "Into a SLOT come two GRIDS of one R, the other one right of the one, the EDGES between as told "
            + "(0 .. 3): C.")
    static void promise41_beside() {
        String[] between = {"", "turn 0 right,3 right;", "wall 0 right,3 right;", "gap 0 right,3 right;"};
        for (int how = 0; how < 4; how++) {
            PegStrings x = grid("grid 2 1;wall 0 below;");
            tells(x, 1, "grid 2 2;gap 0 right;turn 1 below;");
            due("C", x.beside(0, 1, how, 2), 3);
            tells(x, 0, "grid 2 3;" + between[how]);
            for (int e : new int[] {0, 5}) {
                due("between, edge " + e, x.edge(2, e), how);
                due("between, edge " + e, x.edge(0, e), how);
            }
            due("the one", x.edge(2, x.edgeOf(2, 0, 1)), 2);
            due("the other one", x.edge(2, x.edgeOf(2, 1, 0)), 3);
            due("the other one", x.edge(2, x.edgeOf(2, 2, 1)), 1);
        }
        PegStrings x = grid("grid 4 2;");
        due("up to four", x.beside(0, 0, 1, 0), 4);
        due("into itself", x.look(0, 4), 4);
        due("undone", x.undo(), 1);
        due("as it was", x.look(0, 1), 2);
        x = grid("grid 1 1;");
        tells(x, 1, "grid 1 2;gap 0 right;");
        due("over the other one", x.beside(0, 1, 2, 1), 3);
        dueText("the one, then the other one", textIn(x, 1), "grid 1 3;wall 0 right;gap 1 right;");
        due("the same again is no act", x.count(1), 3);
        due("the other way round", x.beside(1, 0, 0, 2), 4);
        dueText("the one, then the other one", textIn(x, 2), "grid 1 4;wall 0 right;gap 1 right;");
    }

    @Says(at = "Promise 41", words = "-5: it would be above 4")
    static void promise41_above4() {
        refuses("grid 1 3;", "beside itself, into", -5, (x, n) -> x.beside(0, 0, 0, n), 0, 1, 2);
        for (int a = 1; a <= 4; a++) {
            for (int b = 1; b <= 4; b++) {
                PegStrings x = grid("grid 2 " + a + ";");
                tells(x, 1, "grid 2 " + b + ";");
                due(a + " and " + b, x.beside(0, 1, 2, 2), a + b > 4 ? -5 : a + b);
                due("an act or none", x.count(1), a + b > 4 ? 2 : 3);
                due("a grid or none", x.count(0), a + b > 4 ? 3 : 7);
            }
        }
    }

    @Says(at = "Promise 41", words = "-6: they have not one R")
    static void promise41_notOneR() {
        for (int a = 1; a <= 4; a++) {
            for (int b = 1; b <= 4; b++) {
                PegStrings x = grid("grid " + a + " 2;");
                tells(x, 1, "grid " + b + " 2;");
                due(a + " and " + b, x.beside(0, 1, 2, 2), a != b ? -6 : 4);
                due("an act or none", x.count(1), a != b ? 2 : 3);
                due("a grid or none", x.count(0), a != b ? 3 : 7);
            }
        }
    }

    @Says(at = "Promise 41", words = "-2.")
    static void promise41_refused() {
        refuses("grid 1 2;", "slot", -2, (x, n) -> x.beside(n, 0, 0, 0), NO_GRIDS);
        refuses("grid 1 2;", "other", -2, (x, n) -> x.beside(0, n, 0, 0), NO_GRIDS);
        refuses("grid 1 2;", "how", -2, (x, n) -> x.beside(0, 0, n, 0), -1, 4, MIN, MAX);
        refuses("grid 1 2;", "to", -2, (x, n) -> x.beside(0, 0, 0, n), NO_SLOTS);
        due("into one that has nothing", grid("grid 1 2;").beside(0, 0, 0, 2), 4);
    }

    // ---- 42 alike, 43 same, 44 plain ----

    @Says(at = "Promise 42", words = "1 if a GRID is another one, turned by quarters, mirrored or not, else 0.")
    static void promise42_alike() {
        String text = "grid 2 3;turn 0 right;wall 2 below;gap 4 right;";
        for (int turn = 0; turn < 8; turn++) {
            PegStrings x = grid(text);
            tells(x, 1, text);
            for (int i = 0; i < turn % 4; i++) {
                x.quarter(1);
            }
            if (turn > 3) {
                x.mirror(1);
            }
            due("turned " + turn, x.alike(0, 1), 1);
            due("and back", x.alike(1, 0), 1);
            due("no act by it", x.count(1), 2 + turn % 4 + turn / 4);
            x.sets(1, 0, (x.edge(1, 0) + 1) % 4);
            due("one edge otherwise", x.alike(0, 1), 0);
        }
        PegStrings x = grid("grid 1 1;");
        due("itself", x.alike(0, 0), 1);
        tells(x, 1, "grid 1 2;");
        due("other sides", x.alike(0, 1), 0);
        tells(x, 0, "grid 1 2;turn 0 right;");
        due("a cross mirrored is turned", x.alike(0, 1), 1);
        tells(x, 1, "grid 2 1;gap 0 below;");
        due("a gap is no cross", x.alike(0, 1), 0);
    }

    @Says(at = "Promise 42", words = "-2.")
    static void promise42_refused() {
        refuses(ALL, "slot", -2, (x, n) -> x.alike(n, 0), NO_GRIDS);
        refuses(ALL, "other", -2, (x, n) -> x.alike(0, n), NO_GRIDS);
        refuses(ALL, "both", -2, (x, n) -> x.alike(n, n), NO_GRIDS);
    }

    @Says(at = "Promise 43", words = "1 if a GRID stays as it is, turned by a quarter (what 0), by two (1), mirrored (2), mirrored and "
            + "turned by two quarters (3), else 0.")
    static void promise43_same() {
        String[] texts = {"grid 1 1;", TWO, "grid 1 2;", "grid 1 3;turn 0 right;", "grid 3 1;turn 0 below;", RING,
            "grid 2 2;wall 0 right;", ALL};
        int[][] wants = {{1, 1, 1, 1}, {1, 1, 0, 0}, {0, 1, 0, 0}, {0, 0, 1, 0}, {0, 0, 0, 1}, {1, 1, 1, 1},
            {0, 0, 0, 0}, {0, 0, 0, 0}};
        for (int i = 0; i < texts.length; i++) {
            PegStrings x = grid(texts[i]);
            for (int what = 0; what < 4; what++) {
                due(texts[i] + " what " + what, x.same(0, what), wants[i][what]);
            }
            dueText("it stays", textIn(x, 0), texts[i]);
            due("no act", x.count(1), 1);
        }
    }

    @Says(at = "Promise 43", words = "-2.")
    static void promise43_refused() {
        refuses(TWO, "what", -2, (x, n) -> x.same(0, n), -1, 4, MIN, MAX);
        refuses(TWO, "slot", -2, (x, n) -> x.same(n, 0), NO_GRIDS);
    }

    @Says(at = "Promise 44", words = "How many STRANDS a GRID of R by C CELLS (1 .. 9999) of CROSSES alone would have.")
    static void promise44_plain() {
        for (int r = 1; r <= 4; r++) {
            for (int c = 1; c <= 4; c++) {
                due(r + " by " + c, new PegStrings().plain(r, c), grid("grid " + r + " " + c + ";").look(0, 7));
            }
        }
        PegStrings x = new PegStrings();
        due("1, 9999", x.plain(1, 9999), 1);
        due("9999, 1", x.plain(9999, 1), 1);
        due("9999, 9999", x.plain(9999, 9999), 9999);
        due("9999, 9998", x.plain(9999, 9998), 1);
        due("9999, 3333", x.plain(9999, 3333), 3333);
        due("6765, 4181: the most steps", x.plain(6765, 4181), 1);
        due("4181, 6765", x.plain(4181, 6765), 1);
    }

    @Says(at = "Promise 44", words = "-2.")
    static void promise44_refused() {
        refuses(TWO, "r", -2, (x, n) -> x.plain(n, 4), 0, -1, -4, 10000, MIN, MAX);
        refuses(TWO, "c", -2, (x, n) -> x.plain(4, n), 0, -1, -4, 10000, MIN, MAX);
        refuses(TWO, "both", -2, (x, n) -> x.plain(n, n), 0, -1, 10000, MIN, MAX);
    }

    // ---- 45 drops, 46 undo ----

    @Says(at = "Promise 45", words = "A SLOT has nothing any more: 1 if it had a GRID, else 0.")
    static void promise45_drops() {
        for (int slot = 0; slot < 3; slot++) {
            PegStrings x = new PegStrings();
            due("it had nothing", x.drops(slot), 0);
            due("no act", x.count(1), 0);
            tells(x, slot, "grid 1 2;");
            due("it had a grid", x.drops(slot), 1);
            due("nothing any more", x.look(slot, 0), -2);
            due("slots", x.count(0), 0);
            due("again", x.drops(slot), 0);
            due("acts", x.count(1), 2);
            due("undone", x.undo(), 1);
            due("there again", x.look(slot, 1), 2);
        }
    }

    @Says(at = "Promise 45", words = "-2: no such SLOT.")
    static void promise45_noSuchSlot() {
        refuses(TWO, "slot", -2, (x, n) -> x.drops(n), NO_SLOTS);
    }

    @Says(at = "Promise 46", words = "The latest act is undone: how many can be.")
    static void promise46_undone() {
        PegStrings x = grid(TWO);
        tells(x, 1, "grid 1 3;turn 0 right;");
        x.oneLine(0);
        x.quarter(1);
        x.beside(0, 0, 3, 2);
        x.drops(0);
        x.tell(2, 0);
        String told = out(x);
        feeds(x, "gri");
        due("drops()", x.undo(), 5);
        due("beside()", x.undo(), 4);
        due("the slot has nothing", x.look(2, 0), -2);
        due("quarter()", x.undo(), 3);
        due("columns", x.look(1, 1), 3);
        due("oneLine()", x.undo(), 2);
        due("walls", x.look(0, 5), 0);
        due("told()", x.undo(), 1);
        due("the slot has nothing", x.look(1, 0), -2);
        due("told()", x.undo(), 0);
        due("no slot has a grid", x.count(0), 0);
        due("the tape stays", x.count(2), 3);
        dueText("OUT stays", out(x), told);
        // A grid told over another one: the other one comes back.
        x = grid(TWO);
        tells(x, 0, "grid 1 3;wall 1 right;");
        due("told()", x.undo(), 1);
        dueText("what was there", textIn(x, 0), TWO);
    }

    @Says(at = "Promise 46", words = "NONE: none.")
    static void promise46_none() {
        PegStrings x = new PegStrings();
        due("of a new object", x.undo(), -1);
        tells(x, 0, "grid 1 1;");
        due("the one act", x.undo(), 0);
        due("none any more", x.undo(), -1);
        due("none any more", x.undo(), -1);
        tells(x, 0, "grid 1 1;");
        due("one more", x.undo(), 0);
        tells(x, 0, "grid 1 2;");
        for (int i = 0; i < 11; i++) {
            x.under(0);
        }
        for (int left = 9; left >= 0; left--) {
            due("the latest ten", x.undo(), left);
        }
        due("none any more", x.undo(), -1);
        due("the eleventh stays", x.look(0, 4), 1);
    }

    // ---- 47 tell, 48 octet ----

    @Says(at = "Promise 47", words = "What 0: the GRID is TOLD in OUT as a TEXT (a blank behind each word and number but the last ahead of , "
            + "or ;; turned ones, WALLS, GAPS each in one LINE, none without)")
    static void promise47_toldAsText() {
        String[] texts = {"grid 1 1;", ALL, "grid 1 3;gap 0 right,1 right;", "grid 1 3;wall 0 right,1 right;",
            "grid 1 3;turn 0 right,1 right;", "grid 4 4;turn 9 right,10 right;wall 0 right,11 below;gap 12 right,14 right;"};
        for (String text : texts) {
            PegStrings x = grid(text);
            due("bytes of " + text, x.tell(0, 0), text.length());
            dueText("text", out(x), text);
        }
        PegStrings x = grid("\ngrid 02  2 ;gap 2 right ; wall 1 below;turn 0\nbelow;gap 0 right;");
        x.tell(0, 0);
        dueText("by kinds, by numbers", out(x), "grid 2 2;turn 0 below;wall 1 below;gap 0 right,2 right;");
        x = grid("grid 4 4;");
        x.all(0, 0, 1);
        // "grid 4 4;", "turn ", 24 words with a blank, 18 numbers of one digit and 6 of two, 23 commas, one semicolon.
        due("the most bytes", x.tell(0, 0), 9 + 5 + 24 * 6 + 18 + 6 * 2 + 23 + 1);
        due("can be told", tells(x, 1, out(x)), 4);
        due("as they were", x.alike(0, 1), 1);
    }

    @Says(at = "Promise 47", words = "1: PAINT, two lines for each row of CELLS (upper corners, lower ones; the left one first), LF (10) "
            + "behind each: how many bytes.")
    static void promise47_toldAsPaint() {
        PegStrings x = grid("grid 1 1;");
        due("six bytes", x.tell(0, 1), 6);
        dueText("one cell", out(x), "10\n01\n");
        x = grid("grid 1 2;");
        due("ten bytes", x.tell(0, 1), 10);
        dueText("two cells", out(x), "1001\n0110\n");
        x = grid("grid 2 1;");
        due("twelve bytes", x.tell(0, 1), 12);
        dueText("two rows", out(x), "10\n01\n01\n10\n");
        for (int r = 1; r <= 4; r++) {
            for (int c = 1; c <= 4; c++) {
                x = grid("grid " + r + " " + c + ";");
                due(r + " by " + c, x.tell(0, 1), 2 * r * (2 * c + 1));
                StringBuilder wants = new StringBuilder();
                for (int line = 0; line < 2 * r; line++) {
                    for (int cell = line / 2 * c; cell < line / 2 * c + c; cell++) {
                        wants.append(x.paint(0, cell, line % 2 == 0 ? 3 : 2)).append(x.paint(0, cell, line % 2));
                    }
                    wants.append('\n');
                }
                dueText(r + " by " + c, out(x), wants.toString());
            }
        }
    }

    @Says(at = "Promise 47", words = "-2.")
    static void promise47_refused() {
        refuses(ALL, "what", -2, (x, n) -> x.tell(0, n), -1, 2, MIN, MAX);
        refuses(ALL, "slot", -2, (x, n) -> x.tell(n, 0), NO_GRIDS);
        refuses(ALL, "slot", -2, (x, n) -> x.tell(n, 1), NO_GRIDS);
    }

    @Says(at = "Promise 48", words = "Byte i of OUT (what was told in it last by a call that was not refused, whatever came since; empty "
            + "ahead of any).")
    static void promise48_byteOfOut() {
        PegStrings x = new PegStrings();
        due("ahead of any", x.octet(0), -1);
        tells(x, 0, "grid 1 2;");
        due("told() tells nothing in OUT", x.octet(0), -1);
        x.tell(0, 0);
        String text = "grid 1 2;";
        for (int i = 0; i < text.length(); i++) {
            due("byte " + i, x.octet(i), text.charAt(i));
        }
        due("refused", x.tell(0, 2), -2);
        due("refused", x.tell(1, 0), -2);
        x.sets(0, 0, 3);
        x.drops(0);
        x.undo();
        x.undo();
        x.undo();
        dueText("whatever came since", out(x), text);
        tells(x, 0, "grid 1 1;");
        x.tell(0, 1);
        due("LF is 10", x.octet(2), 10);
        dueText("the last, and it alone", out(x), "10\n01\n");
    }

    @Says(at = "Promise 48", words = "NONE: there is none such.")
    static void promise48_noneSuch() {
        refuses("grid 1 2;", "octet", -1, (x, n) -> x.octet(n), -1, 9, 10, 399, 400, MIN, MAX);
        for (int i : new int[] {-1, 0, 1, MIN, MAX}) {
            due("of a new object, " + i, new PegStrings().octet(i), -1);
        }
        PegStrings x = grid(ALL);
        x.tell(0, 0);
        x.tell(0, 1);
        due("what a longer text had", x.octet(20), -1);
        due("its last", x.octet(19), 10);
    }
}

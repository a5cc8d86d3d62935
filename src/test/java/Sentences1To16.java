/** The sentences of promises 1 to 16. */
final class Sentences1To16 extends Checks {
    private static final String ALL = "grid 2 2;turn 0 below;wall 1 below;gap 2 right;";
    private static final String TWO = "grid 2 2;";

    private Sentences1To16() {
    }

    @Says(at = "Promise 1", words = "SLOTS have nothing.")
    static void promise01_slotsHaveNothing() {
        PegStrings x = new PegStrings();
        due("slots", x.count(0), 0);
        for (int slot = 0; slot < 3; slot++) {
            due("look at slot " + slot, x.look(slot, 0), -2);
            due("tell slot " + slot, x.tell(slot, 0), -2);
            due("drops slot " + slot, x.drops(slot), 0);
        }
        due("nor the tape", x.count(2), 0);
        due("nor OUT", x.count(3), 0);
        due("nor acts", x.count(1), 0);
        PegStrings other = grid(TWO);
        due("whatever another object has", x.count(0), 0);
        due("the other one has it", other.count(0), 1);
    }

    // ---- 2 feed ----

    @Says(at = "Promise 2", words = "Twenty bytes come behind the TAPE, four of each number, the highest first: how many it has")
    static void promise02_twentyBytesHighestFirst() {
        PegStrings x = new PegStrings();
        // "grid 1 2;wall 0 righ" and "t;", each number's highest byte first.
        due("twenty", x.feed(0x67726964, 0x20312032, 0x3b77616c, 0x6c203020, 0x72696768), 20);
        due("forty", x.feed(0x743b2020, 0x20202020, 0x20202020, 0x20202020, 0x20200a0a), 40);
        due("a wall apart", x.told(0), 2);
        // Bytes from 128 on, numbers below 0.
        x.feed(0x67726964, 0x20312031, 0x3b2020ff, MIN, -1);
        due("byte 255", x.told(0), -4);
        due("its place", x.fault(1), 11);
        x.feed(0x20202020, 0x20202020, 0x20202020, 0x80202020, 0);
        due("byte 128", x.told(0), -4);
        due("its place", x.fault(1), 12);
        // Behind what end() has left.
        x.feed(0x67726964, 0, 0, 0, 0);
        x.end(4);
        due("behind four", x.feed(0x20312031, 0x3b202020, 0x20202020, 0x20202020, 0x20202020), 24);
        due("they hang together", x.told(0), 1);
    }

    @Says(at = "Promise 2", words = "NONE, and none come, if it would have more than 400.")
    static void promise02_noneAbove400() {
        PegStrings x = new PegStrings();
        for (int i = 1; i <= 20; i++) {
            due("up to 400", x.feed(0x20202020, 0x20202020, 0x20202020, 0x20202020, 0x20202020), 20 * i);
        }
        due("above 400", x.feed(0, 0, 0, 0, 0), -1);
        due("none come", x.count(2), 400);
        for (int n = 399; n > 380; n--) {
            x.end(n);
            due(n + " and twenty", x.feed(0, 0, 0, 0, 0), -1);
            due("none come", x.count(2), n);
        }
        x.end(380);
        due("380 and twenty", x.feed(0x67726964, 0x20312031, 0x3b202020, 0x20202020, 0x20202020), 400);
        due("a text of 400 bytes", x.told(0), 1);
        due("empty again", x.feed(0, 0, 0, 0, 0), 20);
    }

    // ---- 3 end ----

    @Says(at = "Promise 3", words = "The TAPE has its first n bytes alone: n")
    static void promise03_firstBytesAlone() {
        PegStrings x = new PegStrings();
        due("none of none", x.end(0), 0);
        x.feed(0x67726964, 0x20312031, 0x3b787878, 0x78787878, 0x78787878);
        due("all of them", x.end(20), 20);
        due("the first nine", x.end(9), 9);
        due("bytes", x.count(2), 9);
        due("the first nine are left", x.told(0), 1);
        x.feed(0x67726964, 0x20312031, 0x3b787878, 0x78787878, 0x78787878);
        due("none", x.end(0), 0);
        due("bytes", x.count(2), 0);
        due("what was there does not come back", x.end(9), -1);
    }

    @Says(at = "Promise 3", words = "NONE, and nothing happens, if it has not so many, or n is below 0.")
    static void promise03_noneTooManyOrBelow0() {
        due("of an empty tape", new PegStrings().end(1), -1);
        refuses(ALL, "end", -1, (x, n) -> x.end(n), 21, 400, MAX, -1, -20, MIN);
        PegStrings x = new PegStrings();
        feeds(x, "grid 1 1;");
        due("one more", x.end(10), -1);
        due("nothing happens", x.told(0), 1);
    }

    // ---- 4 told ----

    @Says(at = "Promise 4", words = "The TAPE (empty then) tells the GRID of a SLOT: how many STRANDS.")
    static void promise04_tapeTellsGrid() {
        PegStrings x = new PegStrings();
        due("strands", tells(x, 1, "grid 4 4;"), 4);
        due("the tape is empty then", x.count(2), 0);
        due("the slot", x.count(0), 2);
        due("told anew", tells(x, 1, "grid 1 3;wall 0 right,1 right;"), 3);
        due("rows", x.look(1, 0), 1);
        due("the tape is empty then", x.count(2), 0);
        due("the most", tells(x, 2, "grid 4 4;wall 0 right,0 below,1 right,1 below,2 right,2 below,3 below,4 right,4 below,"
                + "5 right,5 below,6 right,6 below,7 below,8 right,8 below,9 right,9 below,10 right,10 below,11 below,12 right,"
                + "13 right,14 right;"), 16);
        due("the least", tells(x, 0, "grid 1 1;"), 1);
    }

    @Says(at = "Promise 4", words = "-4: a FAULT (the TAPE is empty, all else stays)")
    static void promise04_faultLeavesAllElse() {
        PegStrings x = grid(ALL);
        x.tell(0, 0);
        String slots = textIn(x, 0);
        due("a fault in the last byte", tells(x, 0, "grid 3 3;wall 0 right;gap 1 right,"), -4);
        due("the tape is empty", x.count(2), 0);
        due("acts stay", x.count(1), 1);
        due("slots stay", x.count(0), 1);
        dueText("OUT stays", out(x), slots);
        dueText("the grid stays", textIn(x, 0), slots);
        due("into an empty slot", tells(x, 1, "grid 3 3;wall 9 right;"), -4);
        due("it has nothing", x.look(1, 0), -2);
        due("an empty tape", x.told(0), -4);
    }

    @Says(at = "Promise 4", words = "-2: no such SLOT (the TAPE stays).")
    static void promise04_noSuchSlot() {
        refuses(ALL, "told", -2, (x, n) -> x.told(n), NO_SLOTS);
        for (int slot : NO_SLOTS) {
            PegStrings x = new PegStrings();
            feeds(x, "grid 1 2;");
            due("told " + slot, x.told(slot), -2);
            due("the tape stays", x.count(2), 9);
            due("it tells a grid still", x.told(0), 1);
            feeds(x, "grd");
            due("no slot, and a fault", x.told(slot), -2);
            due("the tape stays", x.count(2), 3);
        }
    }

    // ---- 5 fault ----

    @Says(at = "Promise 5", words = "Of the latest told() that was not -2, what 0: its FAULT")
    static void promise05_latestFault() {
        PegStrings x = new PegStrings();
        String[] texts = {"grid 1 x;", "grid 1 5;", "grid 1 1;wall 0 right;", "grid 1 2;wall 0 right,0 right;"};
        for (int i = 0; i < 4; i++) {
            tells(x, 0, texts[i]);
            due(texts[i], x.fault(0), i + 1);
            tells(x, 3, "grid 1 1;");
            due("told() that was -2 counts not", x.fault(0), i + 1);
            x.end(0);
            due("nor does another call", x.fault(0), i + 1);
        }
    }

    @Says(at = "Promise 5", words = "0 without")
    static void promise05_zeroWithoutFault() {
        PegStrings x = new PegStrings();
        due("ahead of any", x.fault(0), 0);
        tells(x, 0, "grid 1 1;");
        due("without", x.fault(0), 0);
        tells(x, 0, "grid 0 1;");
        tells(x, 1, "grid 1 1;");
        due("a fault earlier", x.fault(0), 0);
        x.undo();
        due("whatever was undone", x.fault(0), 0);
    }

    @Says(at = "Promise 5", words = "1: its place (NONE without).")
    static void promise05_placeOrNone() {
        PegStrings x = new PegStrings();
        x.told(0);
        due("the end of nothing", x.fault(1), 0);
        tells(x, 0, "grid 1 1;");
        due("without", x.fault(1), -1);
        tells(x, 0, "grid 1 2;" + " ".repeat(390) + "@");
        due("the last of 400", x.fault(1), 399);
        tells(x, 3, "grid 1 1;");
        due("told() that was -2 counts not", x.fault(1), 399);
        x.told(0);
        due("without", x.fault(1), -1);
    }

    @Says(at = "Promise 5", words = "NONE for another what")
    static void promise05_noneForAnotherWhat() {
        refuses(ALL, "fault", -1, (x, n) -> x.fault(n), -1, 2, 3, MIN, MAX);
        for (int what : new int[] {-1, 2, MIN, MAX}) {
            due("of a new object", new PegStrings().fault(what), -1);
        }
    }

    @Says(at = "Promise 5", words = "and ahead of any (what 1).")
    static void promise05_noneAheadOfAny() {
        PegStrings x = new PegStrings();
        due("new", x.fault(1), -1);
        x.told(-1);
        x.told(3);
        due("behind -2 alone", x.fault(1), -1);
        due("and no fault", x.fault(0), 0);
    }

    // ---- 6 count ----

    @Says(at = "Promise 6", words = "0 SLOTS with a GRID, as bits")
    static void promise06_slotsAsBits() {
        for (int bits = 0; bits < 8; bits++) {
            PegStrings x = new PegStrings();
            for (int slot = 0; slot < 3; slot++) {
                if ((bits >> slot & 1) == 1) {
                    tells(x, slot, "grid 1 1;");
                }
            }
            due("bits", x.count(0), bits);
        }
    }

    @Says(at = "Promise 6", words = "1 acts that can be undone")
    static void promise06_actsAtMost10() {
        PegStrings x = new PegStrings();
        due("none", x.count(1), 0);
        tells(x, 0, "grid 1 2;");
        for (int i = 2; i < 20; i++) {
            x.under(0);
            due("acts", x.count(1), Math.min(10, i));
        }
        x.undo();
        due("one less", x.count(1), 9);
    }

    @Says(at = "Promise 6", words = "2 bytes of the TAPE")
    static void promise06_bytesOfTape() {
        PegStrings x = new PegStrings();
        due("empty", x.count(2), 0);
        for (int i = 1; i < 23; i++) {
            x.feed(0, 0, 0, 0, 0);
            due("fed", x.count(2), Math.min(400, 20 * i));
        }
        x.end(7);
        due("cut", x.count(2), 7);
        x.told(0);
        due("told", x.count(2), 0);
    }

    @Says(at = "Promise 6", words = "3 of OUT.")
    static void promise06_bytesOfOut() {
        PegStrings x = grid("grid 1 2;");
        due("empty", x.count(3), 0);
        x.tell(0, 0);
        due("a text", x.count(3), 9);
        x.tell(0, 1);
        due("paint", x.count(3), 10);
        x.tell(1, 0);
        due("refused", x.count(3), 10);
    }

    @Says(at = "Promise 6", words = "NONE for others.")
    static void promise06_noneForOthers() {
        refuses(ALL, "count", -1, (x, n) -> x.count(n), -1, 4, 5, MIN, MAX);
        due("of a new object", new PegStrings().count(4), -1);
    }

    // ---- 7 look, 8 edge, 9 name, 10 edgeOf ----

    @Says(at = "Promise 7", words = "Of a GRID, what 0: R, 1: C, 2: EDGES")
    static void promise07_rowsColumnsEdges() {
        for (int r = 1; r <= 4; r++) {
            for (int c = 1; c <= 4; c++) {
                PegStrings x = grid("grid " + r + " " + c + ";");
                due("R", x.look(0, 0), r);
                due("C", x.look(0, 1), c);
                due("EDGES", x.look(0, 2), r * (c - 1) + c * (r - 1));
            }
        }
    }

    @Says(at = "Promise 7", words = "3: CROSSES (turned ones, too), 4: turned ones, 5: WALLS, 6: GAPS")
    static void promise07_kindsOfEdges() {
        PegStrings x = grid("grid 3 3;turn 0 right,0 below;wall 1 right,1 below,2 below;gap 3 right,3 below,4 right,4 below;");
        due("CROSSES, turned ones, too", x.look(0, 3), 5);
        due("turned ones", x.look(0, 4), 2);
        due("WALLS", x.look(0, 5), 3);
        due("GAPS", x.look(0, 6), 4);
        x = grid("grid 1 1;");
        for (int what = 2; what < 7; what++) {
            due("of one cell, what " + what, x.look(0, what), 0);
        }
    }

    @Says(at = "Promise 7", words = "7: STRANDS, 8: PIECES.")
    static void promise07_strandsAndPieces() {
        String[] texts = {"grid 1 1;", "grid 4 4;", "grid 2 2;", "grid 1 2;wall 0 right;",
            "grid 2 2;gap 0 right,0 below,1 below,2 right;", "grid 2 4;wall 1 right,5 right;"};
        int[] strands = {1, 4, 2, 2, 2, 4};
        int[] pieces = {1, 1, 1, 2, 2, 2};
        for (int i = 0; i < texts.length; i++) {
            PegStrings x = grid(texts[i]);
            due("STRANDS of " + texts[i], x.look(0, 7), strands[i]);
            due("PIECES of " + texts[i], x.look(0, 8), pieces[i]);
        }
        PegStrings walls = grid("grid 4 4;");
        walls.all(0, 0, 2);
        due("the most STRANDS", walls.look(0, 7), 16);
        due("the most PIECES", walls.look(0, 8), 16);
    }

    @Says(at = "Promise 7", words = "-2.")
    static void promise07_refused() {
        refuses(ALL, "what", -2, (x, n) -> x.look(0, n), -1, 9, 10, MIN, MAX);
        refuses(ALL, "slot", -2, (x, n) -> x.look(n, 8), NO_GRIDS);
    }

    @Says(at = "Promise 8", words = "How an EDGE is (0 .. 3).")
    static void promise08_edgeIs0To3() {
        PegStrings x = grid(ALL);
        for (int e = 0; e < 4; e++) {
            due("edge " + e, x.edge(0, e), e);
        }
        x = grid("grid 4 4;gap 14 right;");
        due("the last one", x.edge(0, 23), 3);
        due("the one ahead of it", x.edge(0, 22), 0);
    }

    @Says(at = "Promise 8", words = "-2.")
    static void promise08_refused() {
        refuses(ALL, "edge", -2, (x, n) -> x.edge(0, n), -1, 4, 23, 24, MIN, MAX);
        refuses("grid 4 4;", "edge", -2, (x, n) -> x.edge(0, n), -1, 24, MIN, MAX);
        refuses("grid 1 1;", "edge of one cell", -2, (x, n) -> x.edge(0, n), -1, 0, 1);
        refuses(ALL, "slot", -2, (x, n) -> x.edge(n, 0), NO_GRIDS);
    }

    @Says(at = "Promise 9", words = "Of an EDGE, what 0: its CELL, 1: 0 right, 1 below.")
    static void promise09_cellAndSide() {
        for (int r = 1; r <= 4; r++) {
            for (int c = 1; c <= 4; c++) {
                PegStrings x = grid("grid " + r + " " + c + ";");
                for (int e = 0; e < x.look(0, 2); e++) {
                    due("there and back", x.edgeOf(0, x.name(0, e, 0), x.name(0, e, 1)), e);
                }
            }
        }
        PegStrings x = grid("grid 4 4;");
        due("the first one's cell", x.name(0, 0, 0), 0);
        due("right", x.name(0, 0, 1), 0);
        due("the last one's cell", x.name(0, 23, 0), 14);
        due("right", x.name(0, 23, 1), 0);
        due("the second one's cell", x.name(0, 1, 0), 0);
        due("below", x.name(0, 1, 1), 1);
    }

    @Says(at = "Promise 9", words = "-2.")
    static void promise09_refused() {
        refuses(ALL, "edge", -2, (x, n) -> x.name(0, n, 0), -1, 4, MIN, MAX);
        refuses(ALL, "what", -2, (x, n) -> x.name(0, 0, n), -1, 2, MIN, MAX);
        refuses(ALL, "slot", -2, (x, n) -> x.name(n, 0, 0), NO_GRIDS);
        refuses("grid 1 1;", "edge of one cell", -2, (x, n) -> x.name(0, n, 1), 0);
    }

    @Says(at = "Promise 10", words = "The EDGE right (0), below (1) of a CELL.")
    static void promise10_edgeOfACell() {
        PegStrings x = grid("grid 3 3;");
        int[] right = {0, 2, -1, 5, 7, -1, 10, 11, -1};
        int[] below = {1, 3, 4, 6, 8, 9, -1, -1, -1};
        for (int cell = 0; cell < 9; cell++) {
            due("right of " + cell, x.edgeOf(0, cell, 0), right[cell]);
            due("below " + cell, x.edgeOf(0, cell, 1), below[cell]);
        }
    }

    @Says(at = "Promise 10", words = "NONE: it has none there")
    static void promise10_noneThere() {
        for (int r = 1; r <= 4; r++) {
            for (int c = 1; c <= 4; c++) {
                PegStrings x = grid("grid " + r + " " + c + ";");
                for (int row = 0; row < r; row++) {
                    due("right of a row's last", x.edgeOf(0, row * c + c - 1, 0), -1);
                }
                for (int column = 0; column < c; column++) {
                    due("below a column's last", x.edgeOf(0, (r - 1) * c + column, 1), -1);
                }
            }
        }
    }

    @Says(at = "Promise 10", words = "-2.")
    static void promise10_refused() {
        refuses(ALL, "cell", -2, (x, n) -> x.edgeOf(0, n, 0), -1, 4, MIN, MAX);
        refuses(ALL, "below", -2, (x, n) -> x.edgeOf(0, 0, n), -1, 2, MIN, MAX);
        refuses(ALL, "slot", -2, (x, n) -> x.edgeOf(n, 0, 0), NO_GRIDS);
    }

    // ---- 11 strand, 12 place, 13 walk, 14 length ----

    @Says(at = "Promise 11", words = "The STRAND to which a CORNER of a CELL belongs.")
    static void promise11_strandOfACorner() {
        PegStrings x = grid(TWO);
        int[] wants = {0, 1, 0, 0, 1, 1, 0, 1, 0, 1, 1, 1, 0, 0, 0, 1};
        for (int i = 0; i < 16; i++) {
            due("corner " + i, x.strand(0, i / 4, i % 4), wants[i]);
        }
        x = grid("grid 4 4;");
        x.all(0, 0, 2);
        for (int i = 0; i < 64; i++) {
            due("of sixteen, corner " + i, x.strand(0, i / 4, i % 4), i / 4);
        }
    }

    @Says(at = "Promise 11", words = "-2.")
    static void promise11_refused() {
        refuses(ALL, "cell", -2, (x, n) -> x.strand(0, n, 0), -1, 4, MIN, MAX);
        refuses(ALL, "corner", -2, (x, n) -> x.strand(0, 0, n), -1, 4, MIN, MAX);
        refuses("grid 4 4;", "cell", -2, (x, n) -> x.strand(0, n, 0), -1, 16, MIN, MAX);
        refuses(ALL, "slot", -2, (x, n) -> x.strand(n, 0, 0), NO_GRIDS);
    }

    @Says(at = "Promise 12", words = "The how-manieth (from 0) of its STRAND's WALK a CORNER is.")
    static void promise12_placeFrom0() {
        for (String text : new String[] {"grid 1 1;", TWO, "grid 4 3;", "grid 3 3;gap 0 right;wall 4 below;"}) {
            PegStrings x = grid(text);
            for (int i = 0; i < 4 * x.look(0, 0) * x.look(0, 1); i++) {
                due("there and back", x.walk(0, x.strand(0, i / 4, i % 4), x.place(0, i / 4, i % 4)), i);
            }
            due("the first", x.place(0, 0, 0), 0);
        }
        PegStrings x = grid("grid 4 3;");
        due("the last of all 48 is corner 3", x.place(0, 0, 3), 47);
    }

    @Says(at = "Promise 12", words = "-2.")
    static void promise12_refused() {
        refuses(ALL, "cell", -2, (x, n) -> x.place(0, n, 0), -1, 4, MIN, MAX);
        refuses(ALL, "corner", -2, (x, n) -> x.place(0, 0, n), -1, 4, MIN, MAX);
        refuses(ALL, "slot", -2, (x, n) -> x.place(n, 0, 0), NO_GRIDS);
    }

    @Says(at = "Promise 13", words = "The i-th (from 0) of a STRAND's WALK, as 4 times the CELL, and the CORNER.")
    static void promise13_walkFrom0() {
        PegStrings x = grid(TWO);
        int[] first = {0, 6, 12, 13, 14, 8, 2, 3};
        int[] second = {1, 11, 10, 9, 15, 5, 4, 7};
        for (int i = 0; i < 8; i++) {
            due("strand 0, " + i, x.walk(0, 0, i), first[i]);
            due("strand 1, " + i, x.walk(0, 1, i), second[i]);
        }
    }

    @Says(at = "Promise 13", words = "NONE: not so many")
    static void promise13_noneNotSoMany() {
        refuses(TWO, "i", -1, (x, n) -> x.walk(0, 0, n), 8, 9, 16, 64, MAX);
        refuses(TWO, "i", -1, (x, n) -> x.walk(0, 1, n), 8, 9, 16, 64, MAX);
        refuses("grid 1 1;", "i", -1, (x, n) -> x.walk(0, 0, n), 4, MAX);
        refuses("grid 4 3;", "i", -1, (x, n) -> x.walk(0, 0, n), 48, MAX);
    }

    @Says(at = "Promise 13", words = "-2 (i below 0, too).")
    static void promise13_refused() {
        refuses(TWO, "i below 0", -2, (x, n) -> x.walk(0, 1, n), -1, -8, MIN);
        refuses(TWO, "strand", -2, (x, n) -> x.walk(0, n, 0), -1, 2, MIN, MAX);
        refuses(TWO, "slot", -2, (x, n) -> x.walk(n, 0, 0), NO_GRIDS);
    }

    @Says(at = "Promise 14", words = "How many CORNERS a STRAND has.")
    static void promise14_corners() {
        due("the least", grid("grid 1 1;").length(0, 0), 4);
        due("one of two", grid(TWO).length(0, 1), 8);
        due("all of twelve cells", grid("grid 4 3;").length(0, 0), 48);
        PegStrings x = grid("grid 4 4;");
        x.oneLine(0);
        due("the most", x.length(0, 0), 64);
        x = grid("grid 2 2;gap 0 right,0 below,1 below,2 right;");
        due("outside", x.length(0, 0), 12);
        due("within", x.length(0, 1), 4);
    }

    @Says(at = "Promise 14", words = "-2.")
    static void promise14_refused() {
        refuses(TWO, "strand", -2, (x, n) -> x.length(0, n), -1, 2, 15, 16, 64, MIN, MAX);
        refuses(TWO, "slot", -2, (x, n) -> x.length(n, 0), NO_GRIDS);
    }

    // ---- 15 meets, 16 over ----

    @Says(at = "Promise 15", words = "At how many CROSSES two STRANDS meet")
    static void promise15_crossesOfTwo() {
        PegStrings x = grid(TWO);
        due("0 and 1", x.meets(0, 0, 1), 4);
        due("1 and 0", x.meets(0, 1, 0), 4);
        x.sets(0, 2, 1);
        due("turned ones, too", x.meets(0, 0, 1), 4);
        x.all(0, 0, 2);
        x.all(0, 1, 2);
        due("none any more", x.meets(0, 0, 3), 0);
        due("none any more", x.meets(0, 0, 1), 0);
    }

    @Says(at = "Promise 15", words = "(one and the same: with itself)")
    static void promise15_withItself() {
        due("none", grid(TWO).meets(0, 0, 0), 0);
        due("each once", grid("grid 1 4;turn 1 right;").meets(0, 0, 0), 3);
        due("without crosses", grid("grid 1 1;").meets(0, 0, 0), 0);
        PegStrings x = grid("grid 2 2;gap 0 right;");
        due("the trefoil", x.meets(0, 0, 0), 3);
        x.all(0, 0, 3);
        due("none any more", x.meets(0, 0, 0), 0);
    }

    @Says(at = "Promise 15", words = "-2.")
    static void promise15_refused() {
        refuses(TWO, "a", -2, (x, n) -> x.meets(0, n, 0), -1, 2, MIN, MAX);
        refuses(TWO, "b", -2, (x, n) -> x.meets(0, 0, n), -1, 2, MIN, MAX);
        refuses(TWO, "both", -2, (x, n) -> x.meets(0, n, n), -1, 2, MIN, MAX);
        refuses(TWO, "slot", -2, (x, n) -> x.meets(n, 0, 0), NO_GRIDS);
    }

    @Says(at = "Promise 16", words = "At how many CROSSES with another one")
    static void promise16_overAnother() {
        PegStrings x = grid("grid 2 2;gap 0 right,2 right;turn 0 below;");
        int upper = x.over(0, 0, 1) > 0 ? 0 : 1;
        due("over at all", x.over(0, upper, 1 - upper), 2);
        due("over at none", x.over(0, 1 - upper, upper), 0);
        x.under(0);
        due("turned, over at none", x.over(0, upper, 1 - upper), 0);
        due("turned, over at all", x.over(0, 1 - upper, upper), 2);
        due("where they do not meet", grid("grid 1 2;wall 0 right;").over(0, 0, 1), 0);
    }

    @Says(at = "Promise 16", words = "(one and the same: with itself) a STRAND is OVER.")
    static void promise16_overItself() {
        due("each once", grid("grid 1 4;turn 1 right;").over(0, 0, 0), 3);
        due("none", grid(TWO).over(0, 0, 0), 0);
    }

    @Says(at = "Promise 16", words = "-2.")
    static void promise16_refused() {
        refuses(TWO, "a", -2, (x, n) -> x.over(0, n, 0), -1, 2, MIN, MAX);
        refuses(TWO, "b", -2, (x, n) -> x.over(0, 0, n), -1, 2, MIN, MAX);
        refuses(TWO, "both", -2, (x, n) -> x.over(0, n, n), -1, 2, MIN, MAX);
        refuses(TWO, "slot", -2, (x, n) -> x.over(n, 0, 0), NO_GRIDS);
    }
}

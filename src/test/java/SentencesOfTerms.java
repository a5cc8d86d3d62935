/** The sentences of the document ahead of its promises. */
final class SentencesOfTerms extends Checks {
    private static final String ALL = "grid 2 2;turn 0 below;wall 1 below;gap 2 right;";

    private SentencesOfTerms() {
    }

    @Says(at = "What it is", words = "An object is used for at most 512 calls after it has been made")
    static void term0_answersTo512Calls() {
        PegStrings x = new PegStrings();
        x.feed(0x67726964, 0x20342034, 0x3b202020, 0x20202020, 0x20202020);
        due("call 2", x.told(0), 4);
        for (int call = 3; call < 511; call++) {
            due("call " + call, x.sets(0, call % 24, call / 24 % 2 + 1) >= 0 ? 1 : 0, 1);
        }
        due("call 511", x.count(1), 10);
        due("call 512", x.undo(), 9);
    }

    // ---- I: grids and texts ----

    @Says(at = "Terms", words = "GRID: R rows of C CELLS (R, C 1 .. 4), numbered row by row.")
    static void term1_rowsAndColumnsFrom1To4() {
        for (int r = 1; r <= 4; r++) {
            for (int c = 1; c <= 4; c++) {
                PegStrings x = grid("grid " + r + " " + c + ";");
                due("R", x.look(0, 0), r);
                due("C", x.look(0, 1), c);
                due("the last cell", x.strand(0, r * c - 1, 0) >= 0 ? 1 : 0, 1);
                due("behind the last cell", x.strand(0, r * c, 0), -2);
                due("the row's end has nothing right of it", x.edgeOf(0, c - 1, 0), -1);
            }
            dueFault("grid " + r + " 0;", 2, 7);
            dueFault("grid " + r + " 5;", 2, 7);
            dueFault("grid 0 " + r + ";", 2, 5);
            dueFault("grid 5 " + r + ";", 2, 5);
        }
        // Of six cells alone, two that hang together by a gap: cell 4 lies below cell 1.
        PegStrings x = grid("grid 2 3;wall 0 right,0 below,1 right,2 below,3 right,4 right;gap 1 below;");
        due("one strand round cells 1 and 4", x.visits(0, x.strand(0, 1, 0)), 1 << 1 | 1 << 4);
    }

    @Says(at = "Terms", words = "EDGES lie between two CELLS side by side, or one above the other; by CELLS, the one right of "
            + "it ahead of the one below it, numbered from 0.")
    static void term1_edgesNumberedByCells() {
        due("one cell has none", grid("grid 1 1;").look(0, 2), 0);
        for (int r = 1; r <= 4; r++) {
            for (int c = 1; c <= 4; c++) {
                PegStrings x = grid("grid " + r + " " + c + ";");
                int number = 0;
                for (int cell = 0; cell < r * c; cell++) {
                    boolean[] has = {cell % c < c - 1, cell / c < r - 1};
                    for (int below = 0; below < 2; below++) {
                        due("edge of " + cell, x.edgeOf(0, cell, below), has[below] ? number : -1);
                        number += has[below] ? 1 : 0;
                    }
                }
                due("edges", x.look(0, 2), number);
            }
        }
        due("the most", grid("grid 4 4;").look(0, 2), 24);
    }

    @Says(at = "Terms", words = "An EDGE is 0 a CROSS, 1 a turned CROSS, 2 a WALL, 3 a GAP.")
    static void term1_fourKindsOfEdges() {
        PegStrings x = grid(ALL);
        for (int e = 0; e < 4; e++) {
            due("edge " + e, x.edge(0, e), e);
        }
    }

    @Says(at = "Terms", words = "TEXT: grid R C ; {LINE ;}.")
    static void term1_textWithLinesOrNone() {
        due("no line", tells(new PegStrings(), 0, "grid 1 2;"), 1);
        due("one line", tells(new PegStrings(), 0, "grid 1 2;wall 0 right;"), 2);
        due("three lines", tells(new PegStrings(), 0, ALL), 1);
        due("two of one sort", tells(new PegStrings(), 0, "grid 1 3;wall 0 right;wall 1 right;"), 3);
        dueFault("", 1, 0);
        dueFault("grid", 1, 4);
        dueFault("grid 1", 1, 6);
        dueFault("grid 1 2", 1, 8);
        dueFault("grid 1 2 wall 0 right;", 1, 9);
        dueFault("grid 1 2;;", 1, 9);
        dueFault("grid 1 2;wall 0 right", 1, 21);
        dueFault("grid 1 2;wall 0 right;;", 1, 22);
        dueFault("grid 1 2;grid 1 2;", 1, 9);
    }

    @Says(at = "Terms", words = "LINE: (turn | wall | gap) EDGE {, EDGE}.")
    static void term1_lineWithOneEdgeOrMore() {
        String[] words = {"turn", "wall", "gap"};
        for (int i = 0; i < 3; i++) {
            PegStrings x = grid("grid 1 4;" + words[i] + " 2 right;");
            due("one", x.edge(0, 2), i + 1);
            x = grid("grid 1 4;" + words[i] + " 2 right,0 right,1 right;");
            due("three", x.look(0, 4 + i), 3);
            dueFault("grid 1 4;" + words[i] + ";", 1, 9 + words[i].length());
            dueFault("grid 1 4;" + words[i] + ",", 1, 9 + words[i].length());
            dueFault("grid 1 4;" + words[i] + " 0 right,;", 1, 18 + words[i].length());
            dueFault("grid 1 4;" + words[i] + " 0 right,,", 1, 18 + words[i].length());
            dueFault("grid 1 4;" + words[i] + " 0 right 1 right;", 1, 18 + words[i].length());
        }
        for (String word : new String[] {"cross", "grid", "right", "below", "0", ",", "burn", "turm", "ball", "map", "gab"}) {
            dueFault("grid 1 4;" + word + " 0 right;", 1, 9);
        }
    }

    @Says(at = "Terms", words = "EDGE: CELL (right | below).")
    static void term1_edgeIsCellAndSide() {
        PegStrings x = grid("grid 2 2;wall 0 right,1 below;");
        due("right", x.edge(0, 0), 2);
        due("below", x.edge(0, 2), 2);
        dueFault("grid 2 2;wall right;", 1, 14);
        dueFault("grid 2 2;wall 0;", 1, 15);
        dueFault("grid 2 2;wall 0,", 1, 15);
        dueFault("grid 2 2;wall 0 0;", 1, 16);
        for (String word : new String[] {"left", "above", "wall", "grid", "rights", "righ", "belo", "night", "bellow"}) {
            dueFault("grid 2 2;wall 0 " + word + ";", 1, 16);
        }
    }

    @Says(at = "Terms", words = "All others are CROSSES.")
    static void term1_othersAreCrosses() {
        PegStrings x = grid("grid 4 4;");
        for (int e = 0; e < 24; e++) {
            due("edge " + e, x.edge(0, e), 0);
        }
        due("a slot told anew", tells(x, 0, "grid 4 4;wall 0 right;"), 3);
        tells(x, 0, "grid 4 4;gap 1 right;");
        due("what was a wall", x.edge(0, 0), 0);
        due("all but one", x.look(0, 3), 23);
    }

    @Says(at = "Terms", words = "TOKENS, blanks (32, 10) aside, the longest: words (a .. z), digits, else single bytes.")
    static void term1_tokensAndBlanks() {
        for (int sign = 0; sign < 256; sign++) {
            String text = "grid 1 1 " + (char) sign + ";";
            if (sign == ' ' || sign == '\n') {
                due("a blank", tells(new PegStrings(), 0, text), 1);
            } else {
                dueFault(text, 1, sign == ';' ? 10 : 9);
            }
        }
        due("blanks all about", tells(new PegStrings(), 0, "\n grid\n\n1  2 ;\nwall 0\nright\n; \n"), 2);
        due("no blanks", tells(new PegStrings(), 0, "grid1 2;wall0right;"), 2);
        dueFault("grid11;", 2, 4);
        dueFault("grid 1 2;wall 00right1right;", 1, 21);
        dueFault("gridgrid 1 1;", 1, 0);
        dueFault("gr id 1 1;", 1, 0);
        dueFault("brid 1 1;", 1, 0);
        dueFault("gris 1 1;", 1, 0);
        dueFault("grid 1 2;wa ll 0 right;", 1, 9);
        dueFault("grid`1 1;", 1, 4);
        dueFault("grid{1 1;", 1, 4);
        dueFault("grida1 1;", 1, 0);
        dueFault("gridz1 1;", 1, 0);
        dueFault("Grid 1 1;", 1, 0);
        dueFault("grid 1/1;", 1, 6);
        dueFault("grid 1:1;", 1, 6);
        due("digits 0 and 9", grid("grid 4 4;wall 10 right,9 right;").look(0, 5), 2);
    }

    @Says(at = "Terms", words = "FAULTS, of several the one whose first byte (a TOKEN's; the end's) is least")
    static void term1_firstOfSeveralFaults() {
        dueFault("grid 5 0;", 2, 5);
        dueFault("grid 2 2;wall 1 right,9 right,x", 3, 16);
        dueFault("grid 2 2;wall 9 right,1 right,x", 2, 14);
        dueFault("grid 2 2;wall 0 right,0 right,1 right;", 4, 24);
        dueFault("grid 2 2;x 9 right", 1, 9);
        dueFault("grid 2 2;wall 9", 2, 14);
        dueFault("grid 2 2;wall 0 right", 1, 21);
        dueFault("grid 2 2;wall 0 right  ", 1, 23);
        dueFault("  \n", 1, 3);
        dueFault("   Grid", 1, 3);
        dueFault(" ".repeat(400), 1, 400);
        dueFault("grid 2 2;" + " ".repeat(390) + "x", 1, 399);
        dueFault("grid 2 2;" + " ".repeat(387) + "wall", 1, 400);
    }

    @Says(at = "Terms", words = "of one byte the least number: 1 a TOKEN that is none, or can't stand there.")
    static void term1_fault1AheadOfOthers() {
        dueFault("grid 2 2 9;", 1, 9);
        dueFault("grid 2 2;9 right;", 1, 9);
        dueFault("99 2 2;", 1, 0);
        dueFault("grid 2 2;wall 0 99;", 1, 16);
        dueFault("grid 2 2;wall 0 right 99;", 1, 22);
        dueFault("grid 2 2;wall 0 right right;", 1, 22);
        dueFault("grid 2 2;wall below;", 1, 14);
        dueFault("grid two 2;", 1, 5);
        dueFault("grid 2 two;", 1, 7);
        dueFault("grid -2 2;", 1, 5);
        dueFault("grid 2 2;wall -1 right;", 1, 14);
        dueFault("grid 2 2;WALL 0 right;", 1, 9);
        dueFault("grid 2 2;wall 0 Right;", 1, 16);
        dueFault("grid 2 2;wall 0 right.", 1, 21);
    }

    @Says(at = "Terms", words = "2 a number out of its bounds (R, C; a CELL).")
    static void term1_fault2OutOfBounds() {
        String[] beyond = {"5", "9", "10", "44", "256", "2147483648", "4294967297", "4294967300", "18446744073709551617",
            "1" + "0".repeat(300), "1" + "0".repeat(299) + "1"};
        for (String number : beyond) {
            dueFault("grid " + number + " 1;", 2, 5);
            dueFault("grid 1 " + number + ";", 2, 7);
            dueFault("grid 1 2;wall " + number + " right;", 2, 14);
        }
        for (String number : new String[] {"0", "00"}) {
            dueFault("grid " + number + " 1;", 2, 5);
            dueFault("grid 1 " + number + ";", 2, 7);
        }
        for (int r = 1; r <= 4; r++) {
            for (int c = 1; c <= 4; c++) {
                dueFault("grid " + r + " " + c + ";wall " + r * c + " right;", 2, 14);
                dueFault("grid " + r + " " + c + ";gap " + (r * c - 1) + " right;", 3, r * c > 10 ? 16 : 15);
            }
        }
        due("as many as it has", tells(new PegStrings(), 0, "grid 4 4;wall 14 right;"), 3);
    }

    @Says(at = "Terms", words = "3 right, below where the CELL has no EDGE, at that word.")
    static void term1_fault3NoEdgeThere() {
        for (int r = 1; r <= 4; r++) {
            for (int c = 1; c <= 4; c++) {
                for (int cell = 0; cell < r * c; cell++) {
                    String text = "grid " + r + " " + c + ";turn " + cell + " ";
                    if (cell % c == c - 1) {
                        dueFault(text + "right;", 3, text.length());
                    } else {
                        due(text + "right;", grid(text + "right;").look(0, 4), 1);
                    }
                    if (cell / c == r - 1) {
                        dueFault(text + "below;", 3, text.length());
                    } else {
                        due(text + "below;", grid(text + "below;").look(0, 4), 1);
                    }
                }
            }
        }
    }

    @Says(at = "Terms", words = "4 an EDGE told again, at that word.")
    static void term1_fault4ToldAgain() {
        String[] words = {"turn", "wall", "gap"};
        for (String first : words) {
            String line = "grid 2 2;" + first + " 0 below";
            dueFault(line + ",0 below;", 4, line.length() + 3);
            dueFault(line + ",1 below,00 below;", 4, line.length() + 12);
            for (String second : words) {
                dueFault(line + ";" + second + " 0 below;", 4, line.length() + 4 + second.length());
            }
            due("the other one of the cell", tells(new PegStrings(), 0, line + ",0 right;") > 0 ? 1 : 0, 1);
        }
    }

    // ---- II: strands ----

    @Says(at = "Terms", words = "A CELL has SIDES 0 above, 1 right, 2 below, 3 left; CORNER k (0 .. 3): a string from the middle "
            + "of SIDE k to that of SIDE k and 1 (behind 3 comes 0).")
    static void term2_cornersOfACell() {
        PegStrings x = grid("grid 1 1;");
        for (int k = 0; k < 4; k++) {
            due("corner " + k, x.walk(0, 0, k), k);
        }
        due("behind 3 it has come round", x.walk(0, 0, 4), -1);
        due("as a clock's hand goes", x.winds(0, 0, 0), 1);
        // Corner 3 ends at side 0: over a gap there it goes on into the cell above, at its left.
        x = grid("grid 2 1;gap 0 below;");
        due("corner 3 of the lower cell", x.place(0, 1, 3), 5);
        due("then corner 2 of the upper cell", x.place(0, 0, 2), 6);
    }

    @Says(at = "Terms", words = "Going on over a SIDE: at the rim, or at a WALL, into the other CORNER of the CELL that ends there")
    static void term2_turnsAtRimAndWall() {
        PegStrings x = grid("grid 3 3;wall 1 below,3 right,4 right,4 below;");
        for (int k = 0; k < 4; k++) {
            due("walls on all sides", x.walk(0, x.strand(0, 4, 0), k), 16 + k);
        }
        due("nothing else", x.length(0, x.strand(0, 4, 0)), 4);
        x = grid("grid 1 1;");
        due("the rim on all sides", x.length(0, 0), 4);
    }

    @Says(at = "Terms", words = "at a GAP into the CORNER of the next CELL that is on the same hand (above, below; left, right) of "
            + "the EDGE")
    static void term2_goesStraightAtAGap() {
        PegStrings x = grid("grid 1 2;gap 0 right;");
        due("above: corner 0", x.walk(0, 0, 0), 0);
        due("above: corner 3 of the next", x.walk(0, 0, 1), 7);
        due("below: corner 2 of the next", x.walk(0, 0, 4), 6);
        due("below: corner 1", x.walk(0, 0, 5), 1);
        x = grid("grid 2 1;gap 0 below;");
        due("right: corner 1", x.walk(0, 0, 1), 1);
        due("right: corner 0 of the next", x.walk(0, 0, 2), 4);
        due("left: corner 3 of the next", x.walk(0, 0, 5), 7);
        due("left: corner 2", x.walk(0, 0, 6), 2);
    }

    @Says(at = "Terms", words = "at a CROSS into the one that is not.")
    static void term2_changesHandsAtACross() {
        for (String turned : new String[] {"", "turn 0 right;"}) {
            PegStrings x = grid("grid 1 2;" + turned);
            due("above: corner 0", x.walk(0, 0, 0), 0);
            due("below: corner 2 of the next", x.walk(0, 0, 1), 6);
            due("above: corner 3 of the next", x.walk(0, 0, 4), 7);
            due("below: corner 1", x.walk(0, 0, 5), 1);
        }
        for (String turned : new String[] {"", "turn 0 below;"}) {
            PegStrings x = grid("grid 2 1;" + turned);
            due("right: corner 1", x.walk(0, 0, 1), 1);
            due("left: corner 3 of the next", x.walk(0, 0, 2), 7);
            due("right: corner 0 of the next", x.walk(0, 0, 5), 4);
            due("left: corner 2", x.walk(0, 0, 6), 2);
        }
    }

    @Says(at = "Terms", words = "STRANDS: all CORNERS that so come round; numbered by the least of 4 times the CELL, and the CORNER; "
            + "the WALK begins there, towards SIDE k and 1.")
    static void term2_strandsByTheirLeastCorner() {
        for (String text : new String[] {"grid 4 4;", "grid 3 3;turn 0 right;", "grid 2 2;gap 0 right,0 below,1 below,2 right;",
            "grid 4 4;wall 0 right,1 right,5 below,6 right;gap 9 right,10 right,14 right;"}) {
            PegStrings x = grid(text);
            int met = 0;
            for (int corner = 0; corner < 4 * x.look(0, 0) * x.look(0, 1); corner++) {
                int strand = x.strand(0, corner / 4, corner % 4);
                if (strand == met) {
                    due("a new strand begins at its least corner", x.walk(0, strand, 0), corner);
                    due("at place 0", x.place(0, corner / 4, corner % 4), 0);
                    met++;
                }
                due("no strand is left out", strand < met ? 1 : 0, 1);
            }
            due("strands", x.look(0, 7), met);
        }
        // Towards side k and 1: corner 1 of cell 0 ends below, beyond the gap comes the next cell.
        due("towards side 2", grid("grid 2 2;gap 0 right,0 below,1 below,2 right;").walk(0, 1, 1), 8);
    }

    @Says(at = "Terms", words = "At a CROSS that goes right OVER is the one that falls from left to right")
    static void term2_fallingIsOverToTheRight() {
        PegStrings x = grid("grid 2 2;gap 0 below,1 below;");
        due("two strands", x.look(0, 7), 2);
        due("strand 0 falls from the first corner", x.walk(0, 0, 0), 0);
        due("it falls", x.walk(0, 0, 1), 6);
        int over = x.over(0, 0, 1);
        x.sets(0, 0, 1);
        due("turned it is over no more", x.over(0, 0, 1), over - 1);
    }

    @Says(at = "Terms", words = "at one below a CELL the one that rises from left to right")
    static void term2_risingIsOverBelow() {
        // Strand 0 goes along the upper rim over the gap, then round cell 1 on its right.
        PegStrings x = grid("grid 2 2;gap 0 right,2 right;");
        due("two strands", x.look(0, 7), 2);
        due("strand 0 comes to the cross below cell 1", x.walk(0, 0, 3), 5);
        due("from the right to the left, downwards: it rises from left to right", x.walk(0, 0, 4), 15);
        int over = x.over(0, 0, 1);
        x.sets(0, 2, 1);
        due("turned it is over no more", x.over(0, 0, 1), over - 1);
    }

    @Says(at = "Terms", words = "turned: the other one.")
    static void term2_turnedOtherIsOver() {
        PegStrings x = grid("grid 2 2;");
        due("0 over 1", x.over(0, 0, 1), 2);
        due("1 over 0", x.over(0, 1, 0), 2);
        for (int e = 0; e < 4; e++) {
            int before = x.over(0, 0, 1);
            x.sets(0, e, 1);
            due("edge " + e, Math.abs(x.over(0, 0, 1) - before), 1);
            due("the other one", x.over(0, 0, 1) + x.over(0, 1, 0), 4);
        }
        due("all turned", x.over(0, 0, 1), 2);
    }

    @Says(at = "Terms", words = "SIGN of a CROSS: plus, if, going along the one that is OVER as its WALK does, the other one's WALK "
            + "comes from the right to the left, else minus.")
    static void term2_signOfACross() {
        // Over to the right downwards; the other one comes back to the left downwards, from the left hand to the right.
        due("right", grid("grid 1 2;").sign(0, 0), 0);
        due("right, turned", grid("grid 1 2;turn 0 right;").sign(0, 0), 1);
        due("below", grid("grid 2 1;").sign(0, 0), 0);
        due("below, turned", grid("grid 2 1;turn 0 below;").sign(0, 0), 1);
        PegStrings x = grid("grid 4 4;");
        for (int e = 0; e < 24; e++) {
            int before = x.sign(0, e);
            x.sets(0, e, 1);
            due("turned, edge " + e, x.sign(0, e), 1 - before);
        }
    }

    @Says(at = "Terms", words = "PIECES: as STRANDS hang together by CROSSES.")
    static void term2_piecesByCrosses() {
        due("one", grid("grid 1 1;").look(0, 8), 1);
        due("walls alone", grid("grid 1 4;wall 0 right,1 right,2 right;").look(0, 8), 4);
        due("by one strand between", grid("grid 4 4;").look(0, 8), 1);
        due("gaps hold nothing together", grid("grid 2 2;gap 0 right,0 below,1 below,2 right;").look(0, 8), 2);
        due("one within another", grid("grid 3 3;wall 1 below,3 right,4 right,4 below;").look(0, 8), 2);
        due("two of two strands", grid("grid 2 4;wall 1 right,5 right;turn 0 right;").look(0, 8), 2);
    }

    @Says(at = "Terms", words = "KINK: a CROSS of a STRAND with itself, between whose two passings in its WALK (one way or the other "
            + "way round) there is no CROSS passed.")
    static void term2_kinkOneWayOrRound() {
        // The kink at edge 0 is passed first and last: only the other way round nothing lies between.
        PegStrings x = grid("grid 2 3;wall 0 below;gap 1 right,3 right;");
        due("first", x.passed(0, 0, 0), 0);
        due("last", x.passed(0, 0, 7), 0);
        due("the one kink", x.eases(0), 1);
        due("the trefoil stays", x.look(0, 3), 3);
        due("a gap", x.edge(0, 0), 3);
        // Here it is passed twice in a row amid the others.
        x = grid("grid 2 3;wall 2 below;gap 0 right,4 right;");
        due("strands", x.look(0, 7), 1);
        due("the one kink", x.eases(0), 1);
        due("the kink", x.edge(0, 2), 3);
        due("of two strands: none", grid("grid 2 2;gap 0 right,2 right;").eases(0), 0);
        due("the trefoil: none", grid("grid 2 2;gap 0 right;").eases(0), 0);
    }

    // ---- III: brackets and colours ----

    @Says(at = "Terms", words = "BRACKET: for each way to make each CROSS a GAP or a WALL: A to the power of how many GAPS of CROSSES, "
            + "WALLS of turned ones, less the others, times (- A to the 2, - A to the -2) to the power of LOOPS less 1; all ways "
            + "together.")
    static void term3_bracket() {
        due("one way, one loop", grid("grid 1 1;").bracket(0, 0), 1);
        PegStrings x = grid("grid 1 2;wall 0 right;");
        due("one way, two loops", x.bracket(0, 2), -1);
        due("one way, two loops", x.bracket(0, 0), 0);
        due("one way, two loops", x.bracket(0, -2), -1);
        // The gap: A. The wall: A to the -1, times (- A to the 2, - A to the -2). Together: - A to the -3.
        x = grid("grid 1 2;");
        due("A to the 1", x.bracket(0, 1), 0);
        due("A to the -3", x.bracket(0, -3), -1);
        x = grid("grid 1 2;turn 0 right;");
        due("A to the -1", x.bracket(0, -1), 0);
        due("A to the 3", x.bracket(0, 3), -1);
    }

    @Says(at = "Terms", words = "Made so that kinks make no difference: times (- A to the 3) to the power of minus w, w the CROSSES "
            + "that are plus less those that are minus.")
    static void term3_kinksMakeNoDifference() {
        for (String text : new String[] {"grid 1 2;", "grid 1 2;turn 0 right;", "grid 1 3;", "grid 4 1;turn 0 below,1 below,2 below;"}) {
            PegStrings x = grid(text);
            for (int k = -12; k <= 12; k++) {
                due(text + " A to the " + k, x.smooth(0, k), k == 0 ? 1 : 0);
            }
        }
    }

    @Says(at = "Terms", words = "COLOURS: each ARC (of a STRAND from one CROSS at which it is UNDER to the next")
    static void term3_arcs() {
        // The trefoil has three arcs and, modulo 3, as many free numbers as two of them.
        due("trefoil", grid("grid 2 2;gap 0 right;").colours(0, 3), 2);
        due("one arc that comes round", grid("grid 1 2;").colours(0, 3), 1);
    }

    @Says(at = "Terms", words = "a STRAND that is UNDER at none is one) has a number modulo p")
    static void term3_strandNeverUnderIsOneArc() {
        due("no crosses", grid("grid 1 1;").colours(0, 2), 1);
        PegStrings x = grid("grid 2 2;gap 0 right,2 right;turn 0 below;");
        due("strand 0 or 1 is over at none", x.over(0, 0, 1) * x.over(0, 1, 0), 0);
        due("the other one is over twice", x.over(0, 0, 1) + x.over(0, 1, 0), 2);
        due("each its own number", x.colours(0, 7), 2);
        due("four apart", grid("grid 2 2;wall 0 right,0 below,1 below,2 right;").colours(0, 13), 4);
    }

    @Says(at = "Terms", words = "so that at each CROSS twice that of the one that is OVER is as much as those of the two ARCS UNDER it "
            + "together.")
    static void term3_eachCrossHolds() {
        // Hopf's link: twice the one is twice the other, so they differ modulo 2 alone.
        PegStrings x = grid("grid 2 2;gap 0 right,2 right;");
        due("modulo 2", x.colours(0, 2), 2);
        due("modulo 3", x.colours(0, 3), 1);
        // Four crosses of two strands, all alike: numbers in steps that come round modulo 4.
        x = grid("grid 2 2;");
        due("modulo 2", x.colours(0, 2), 2);
        due("modulo 13", x.colours(0, 13), 1);
    }

    // ---- IV: acts and slots ----

    private static void dueActs(PegStrings x, String what, int acts) {
        due("acts behind " + what, x.count(1), acts);
    }

    @Says(at = "Terms", words = "ACTS: told(), oneLine(), eases(), sets(), all(), under(), quarter(), mirror(), beside() by which a "
            + "SLOT becomes otherwise")
    static void term4_actsChangeASlot() {
        PegStrings x = grid("grid 2 2;");
        dueActs(x, "told()", 1);
        tells(x, 0, "grid 2 2;");
        dueActs(x, "told() of the same", 1);
        x.quarter(0);
        dueActs(x, "quarter() that leaves it", 1);
        x.oneLine(0);
        dueActs(x, "oneLine()", 2);
        x.oneLine(0);
        dueActs(x, "oneLine() of one", 2);
        x.eases(0);
        dueActs(x, "eases()", 3);
        x.eases(0);
        dueActs(x, "eases() without kinks", 3);
        x.under(0);
        dueActs(x, "under() without crosses", 3);
        x.sets(0, 0, 1);
        dueActs(x, "sets()", 4);
        x.sets(0, 0, 1);
        dueActs(x, "sets() of the same", 4);
        x.all(0, 3, 0);
        dueActs(x, "all()", 5);
        x.all(0, 3, 0);
        dueActs(x, "all() of none", 5);
        x.under(0);
        dueActs(x, "under()", 6);
        x.quarter(0);
        dueActs(x, "quarter()", 7);
        x.mirror(0);
        dueActs(x, "mirror()", 8);
        x.beside(0, 0, 2, 1);
        dueActs(x, "beside()", 9);
        x.beside(0, 0, 2, 1);
        dueActs(x, "beside() of the same", 9);
        x.all(0, 0, 3);
        x.undo();
        tells(x, 2, "grid 1 2;gap 0 right;");
        dueActs(x, "told()", 10);
        PegStrings y = grid("grid 1 2;gap 0 right;");
        y.mirror(0);
        dueActs(y, "mirror() that leaves it", 1);
    }

    @Says(at = "Terms", words = "drops() of one that had a GRID.")
    static void term4_dropsIsAnAct() {
        PegStrings x = grid("grid 1 1;");
        x.drops(1);
        dueActs(x, "drops() of nothing", 1);
        x.drops(0);
        dueActs(x, "drops()", 2);
        x.drops(0);
        dueActs(x, "drops() again", 2);
    }

    @Says(at = "Terms", words = "The latest 10 can be undone one by one (SLOTS as they were).")
    static void term4_tenCanBeUndone() {
        PegStrings x = grid("grid 4 4;");
        for (int e = 0; e < 24; e++) {
            x.sets(0, e, 2);
            dueActs(x, "sets() " + e, Math.min(10, e + 2));
        }
        for (int left = 9; left >= 0; left--) {
            due("undo", x.undo(), left);
            due("walls left", x.look(0, 5), 14 + left);
            due("the edge is as it was", x.edge(0, 14 + left), 0);
        }
        due("no eleventh", x.undo(), -1);
        due("walls left", x.look(0, 5), 14);
        // Acts behind undone ones take their places.
        for (int e = 0; e < 12; e++) {
            x.sets(0, e, 3);
        }
        dueActs(x, "twelve more", 10);
        for (int left = 9; left >= 0; left--) {
            due("undo", x.undo(), left);
        }
        due("two stay", x.look(0, 6), 2);
        due("no eleventh", x.undo(), -1);
    }

    @Says(at = "Terms", words = "SLOTS 0 .. 2.")
    static void term4_threeSlots() {
        PegStrings x = new PegStrings();
        for (int slot = 0; slot < 3; slot++) {
            due("slot " + slot, tells(x, slot, "grid 1 " + (slot + 1) + ";"), 1);
        }
        for (int slot = 0; slot < 3; slot++) {
            due("columns of slot " + slot, x.look(slot, 1), slot + 1);
        }
        for (int slot : NO_SLOTS) {
            due("no slot " + slot, tells(x, slot, "grid 1 1;"), -2);
            due("no slot " + slot, x.look(slot, 0), -2);
        }
    }

    @Says(at = "Terms", words = "-2 (where nothing else is told): there is no such SLOT, GRID in it, EDGE, CELL, CORNER (0 .. 3), STRAND, "
            + "what, number as told")
    static void term4_refusedCalls() {
        refuses(ALL, "slot, grid", -2, (x, n) -> x.look(n, 0), NO_GRIDS);
        refuses(ALL, "edge", -2, (x, n) -> x.edge(0, n), -1, 4, MIN, MAX);
        refuses(ALL, "cell", -2, (x, n) -> x.strand(0, n, 0), -1, 4, MIN, MAX);
        refuses(ALL, "cell whose corner's number would wrap", -2, (x, n) -> x.strand(0, n, 0), 1 << 30, 1 << 31, 3 << 30);
        refuses(ALL, "corner", -2, (x, n) -> x.strand(0, 0, n), -1, 4, MIN, MAX);
        refuses(ALL, "strand", -2, (x, n) -> x.length(0, n), -1, 1, 2, 3, 64, MIN, MAX);
        refuses(ALL, "what", -2, (x, n) -> x.look(0, n), -1, 9, MIN, MAX);
        refuses(ALL, "number", -2, (x, n) -> x.painted(0, 0, n), -1, 2, MIN, MAX);
    }

    @Says(at = "Terms", words = "ahead of NONE, -5, -6.")
    static void term4_refusedAheadOfOthers() {
        refuses("grid 1 1;", "edgeOf, NONE", -2, (x, n) -> x.edgeOf(0, 0, n), -1, 2, MIN, MAX);
        refuses("grid 1 1;", "walk, NONE", -2, (x, n) -> x.walk(0, n, 1000), -1, 1, MIN, MAX);
        refuses("grid 1 1;", "passed, NONE", -2, (x, n) -> x.passed(0, n, 1000), -1, 1, MIN, MAX);
        refuses(ALL, "interlaced, NONE", -2, (x, n) -> x.interlaced(0, 2, n), -1, 4, MIN, MAX);
        refuses(ALL, "interlaced, NONE", -2, (x, n) -> x.interlaced(0, n, n), -1, 4, MIN, MAX);
        refuses("grid 4 4;", "settings, -5", -2, (x, n) -> x.settings(0, n), -1, MIN);
        refuses("grid 1 4;", "beside, -5", -2, (x, n) -> x.beside(0, 0, n, 0), -1, 4, MIN, MAX);
        refuses("grid 1 4;", "beside, -5", -2, (x, n) -> x.beside(0, 0, 0, n), NO_SLOTS);
        PegStrings x = grid("grid 1 1;");
        tells(x, 1, "grid 2 1;");
        due("beside, without a fault but R", x.beside(0, 1, 0, 2), -6);
        due("beside, -6", x.beside(0, 1, 4, 2), -2);
        due("beside, -6", x.beside(0, 1, 0, 3), -2);
    }
}

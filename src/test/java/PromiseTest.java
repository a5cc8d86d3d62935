import java.lang.reflect.Constructor;
import java.lang.reflect.Field;
import java.lang.reflect.Method;
import java.lang.reflect.Modifier;
import java.util.Arrays;

/** For each promise of the document: ordinary inputs, the edges that it names, and wrong inputs. */
public final class PromiseTest extends Checks {
    public static void main(String[] args) throws Exception {
        for (int i = 0; i <= 48; i++) {
            label = "promise " + i;
            PromiseTest.class.getDeclaredMethod("promise" + i).invoke(null);
        }
        ends();
    }

    /** The face: nothing more, nothing less. */
    static void promise0() {
        due("NONE", PegStrings.NONE, -1);
        due("public final", PegStrings.class.getModifiers(), Modifier.PUBLIC | Modifier.FINAL);
        int methods = 0;
        for (Method method : PegStrings.class.getDeclaredMethods()) {
            if (Modifier.isPublic(method.getModifiers())) {
                methods++;
                boolean isLong = Arrays.asList("bracket", "smooth", "trees").contains(method.getName());
                due(method.getName(), method.getReturnType() == (isLong ? long.class : int.class) ? 1 : 0, 1);
            } else {
                due(method.getName(), Modifier.isPrivate(method.getModifiers()) ? 1 : 0, 1);
            }
        }
        due("public methods", methods, 47);
        for (Field field : PegStrings.class.getDeclaredFields()) {
            boolean isNone = field.getName().equals("NONE");
            due(field.getName(), Modifier.isPrivate(field.getModifiers()) != isNone ? 1 : 0, 1);
        }
        for (Constructor<?> constructor : PegStrings.class.getDeclaredConstructors()) {
            due("constructor", constructor.getParameterCount(), 0);
        }
    }

    static void promise1() {
        PegStrings x = new PegStrings();
        due("count(0)", x.count(0), 0);
        for (int slot = 0; slot < 3; slot++) {
            due("look", x.look(slot, 0), -2);
            due("drops", x.drops(slot), 0);
        }
        due("undo", x.undo(), -1);
        PegStrings y = grid("grid 1 1;");
        due("objects have nothing in common", x.count(0), 0);
        due("objects have nothing in common", y.count(0), 1);
    }

    static void promise2() {
        PegStrings x = new PegStrings();
        for (int i = 1; i <= 20; i++) {
            due("feed", x.feed(MIN, MAX, -1, 0, i), 20 * i);
        }
        due("feed above 400", x.feed(0, 0, 0, 0, 0), -1);
        due("none came", x.count(2), 400);
        due("end(381)", x.end(381), 381);
        due("feed above 400", x.feed(0, 0, 0, 0, 0), -1);
        due("none came", x.count(2), 381);
        due("end(380)", x.end(380), 380);
        due("feed up to 400", x.feed(0, 0, 0, 0, 0), 400);
        // The highest byte first, behind what is there: "grid 2 3;" in two parts.
        x.end(0);
        x.feed(0x67726964, 0, 0, 0, 0);
        x.end(4);
        x.feed(0x20322033, 0x3b202020, 0x20202020, 0x0a0a0a0a, 0x20202020);
        due("two parts", x.told(0), 1);
        due("rows", x.look(0, 0), 2);
        due("columns", x.look(0, 1), 3);
        // All five numbers, in their order.
        x.feed(0x67726964, 0x20312032, 0x3b77616c, 0x6c203020, 0x72696768);
        x.feed(0x743b2020, 0x20202020, 0x20202020, 0x20202020, 0x20202020);
        due("grid 1 2;wall 0 right;", x.told(0), 2);
        due("the wall", x.edge(0, 0), 2);
    }

    static void promise3() {
        PegStrings x = new PegStrings();
        due("end(0)", x.end(0), 0);
        due("end(1)", x.end(1), -1);
        due("end(-1)", x.end(-1), -1);
        x.feed(1, 2, 3, 4, 5);
        for (int n : new int[] {21, -1, MIN, MAX}) {
            due("end(" + n + ")", x.end(n), -1);
            due("nothing happens", x.count(2), 20);
        }
        due("end(20)", x.end(20), 20);
        due("end(7)", x.end(7), 7);
        due("end(8)", x.end(8), -1);
        due("count(2)", x.count(2), 7);
        due("end(0)", x.end(0), 0);
        due("count(2)", x.count(2), 0);
    }

    static void promise4() {
        PegStrings x = new PegStrings();
        due("2 strands", tells(x, 0, "grid 2 2;"), 2);
        due("the tape is empty", x.count(2), 0);
        due("4 strands", tells(x, 2, "grid 4 4;"), 4);
        due("slots", x.count(0), 5);
        for (int slot : NO_SLOTS) {
            feeds(x, "grid 1 1;");
            due("told(" + slot + ")", x.told(slot), -2);
            due("the tape stays", x.count(2), 9);
        }
        due("told now", x.told(1), 1);
        due("a fault", tells(x, 1, "grid 2 2"), -4);
        due("the tape is empty", x.count(2), 0);
        dueText("all else stays", textIn(x, 1), "grid 1 1;");
        due("no act", x.count(1), 3);
        // All words, several lines of a sort, blanks or none between tokens, zeros ahead of numbers.
        due("all words", tells(x, 1, "\n grid02 2;gap 0right , 1\nbelow;turn 0 below;gap 002 right ; "), 1);
        dueText("all words", textIn(x, 1), "grid 2 2;turn 0 below;gap 0 right,1 below,2 right;");
        due("a slot told anew becomes otherwise", x.count(1), 4);
        due("the same again", tells(x, 1, "grid 2 2;turn 0 below;gap 0 right,1 below,2 right;"), 1);
        due("is no act", x.count(1), 4);
        due("a text of 400 bytes", tells(x, 0, "grid 1 2;" + " ".repeat(391)), 1);
    }

    static void promise5() {
        PegStrings x = new PegStrings();
        due("ahead of any", x.fault(0), 0);
        due("ahead of any", x.fault(1), -1);
        for (int what : new int[] {-1, 2, MIN, MAX}) {
            due("fault(" + what + ")", x.fault(what), -1);
        }
        tells(x, 0, "grid 2 x;");
        due("number", x.fault(0), 1);
        due("place", x.fault(1), 7);
        feeds(x, "grid 1 1;");
        x.told(3);
        due("as it was behind -2", x.fault(1), 7);
        x.told(0);
        due("without", x.fault(0), 0);
        due("without", x.fault(1), -1);

        dueFault("", 1, 0);
        dueFault(" \n ", 1, 3);
        dueFault("grid", 1, 4);
        dueFault("grid 1 1", 1, 8);
        dueFault("grid 1 1 \n", 1, 10);
        dueFault("gri 1 1;", 1, 0);
        dueFault("grids 1 1;", 1, 0);
        dueFault("Grid 1 1;", 1, 0);
        dueFault("brid 1 1;", 1, 0);
        dueFault("grida 1 1;", 1, 0);
        dueFault("gridz 1 1;", 1, 0);
        dueFault("grid`1 1;", 1, 4);
        dueFault("grid{1 1;", 1, 4);
        dueFault("grid /1;", 1, 5);
        dueFault("grid :1;", 1, 5);
        dueFault("grid 9 1;", 2, 5);
        dueFault("grid 1 2;mall 0 right;", 1, 9);
        dueFault("grid 1 2;burn 0 right;", 1, 9);
        dueFault("grid 1 2;map 0 right;", 1, 9);
        dueFault("grid 1 2;gap 0 night;", 1, 15);
        dueFault("grid 2 1;gap 0 bellow;", 1, 15);
        dueFault("wall 1 1;", 1, 0);
        dueFault("grid grid 1;", 1, 5);
        dueFault("grid 1 1,", 1, 8);
        dueFault("grid 1 1;;", 1, 9);
        dueFault("grid 1 1;5", 1, 9);
        dueFault("grid 1 1;grid 1 1;", 1, 9);
        dueFault("grid 1 1;\t", 1, 9);
        dueFault("grid 1 1;\u00ff", 1, 9);
        dueFault("grid 1 1;\0", 1, 9);
        dueFault("grid 1 1\r;", 1, 8);
        dueFault("grid 0 1;", 2, 5);
        dueFault("grid 1 0;", 2, 7);
        dueFault("grid 5 5;", 2, 5);
        dueFault("grid 4 5;", 2, 7);
        dueFault("grid 11 1;", 2, 5);
        dueFault("grid 4294967297 1;", 2, 5);
        dueFault("grid 18446744073709551617 1;", 2, 5);
        dueFault("grid 12;", 2, 5);
        dueFault("grid -1 1;", 1, 5);
        dueFault("grid 2 2;wall;", 1, 13);
        dueFault("grid 2 2;wall right;", 1, 14);
        dueFault("grid 2 2;wall 4 right;", 2, 14);
        dueFault("grid 2 2;wall 0;", 1, 15);
        dueFault("grid 2 2;wall 0 above;", 1, 16);
        dueFault("grid 2 2;wall 0 wall;", 1, 16);
        dueFault("grid 2 2;wall 1 right;", 3, 16);
        dueFault("grid 2 2;wall 2 below;", 3, 16);
        dueFault("grid 2 2;wall 3 right;", 3, 16);
        dueFault("grid 2 2;wall 0 right 0 below;", 1, 22);
        dueFault("grid 2 2;wall 0 right,;", 1, 22);
        dueFault("grid 2 2;wall 0 right,wall 0 below;", 1, 22);
        dueFault("grid 2 2;wall 0 right", 1, 21);
        dueFault("grid 2 2;wall 0 right;gap 0 right;", 4, 28);
        dueFault("grid 2 2;turn 0 right,0 right;", 4, 24);
        dueFault("grid 2 2;turn 0 right,0 right,@", 4, 24);
        dueFault("grid 2 2;right 0 right;", 1, 9);
    }

    static void promise6() {
        PegStrings x = new PegStrings();
        for (int what = 0; what < 4; what++) {
            due("count(" + what + ")", x.count(what), 0);
        }
        for (int what : new int[] {-1, 4, MIN, MAX}) {
            due("count(" + what + ")", x.count(what), -1);
        }
        tells(x, 0, "grid 1 1;");
        tells(x, 2, "grid 1 2;");
        due("slots", x.count(0), 5);
        tells(x, 1, "grid 1 2;");
        due("slots", x.count(0), 7);
        x.drops(0);
        due("slots", x.count(0), 6);
        due("acts", x.count(1), 4);
        x.feed(0, 0, 0, 0, 0);
        due("tape", x.count(2), 20);
        x.tell(2, 1);
        due("out", x.count(3), 10);
    }

    static void promise7() {
        PegStrings x = grid("grid 3 4;turn 0 right,0 below,1 right;wall 1 below,2 right;gap 4 below;");
        int[] wants = {3, 4, 17, 14, 3, 2, 1};
        for (int what = 0; what < wants.length; what++) {
            due("look(0, " + what + ")", x.look(0, what), wants[what]);
        }
        for (int what : new int[] {-1, 9, MIN, MAX}) {
            due("look(0, " + what + ")", x.look(0, what), -2);
        }
        for (int slot : NO_SLOTS) {
            due("look(" + slot + ", 0)", x.look(slot, 0), -2);
        }
        due("nothing there", x.look(1, 0), -2);
        x = grid("grid 4 4;");
        due("edges", x.look(0, 2), 24);
        due("strands", x.look(0, 7), 4);
        due("pieces", x.look(0, 8), 1);
        x = grid("grid 1 4;wall 0 right,1 right,2 right;");
        due("strands", x.look(0, 7), 4);
        due("pieces", x.look(0, 8), 4);
        x = grid("grid 1 4;wall 1 right;turn 0 right;");
        due("strands", x.look(0, 7), 2);
        due("pieces", x.look(0, 8), 2);
        // A ring of cells: one strand outside, one within, that meet nowhere.
        x = grid("grid 2 2;gap 0 right,0 below,1 below,2 right;");
        due("strands", x.look(0, 7), 2);
        due("pieces", x.look(0, 8), 2);
    }

    static void promise8() {
        PegStrings x = grid("grid 2 2;turn 0 below;wall 1 below;gap 2 right;");
        for (int e = 0; e < 4; e++) {
            due("edge(0, " + e + ")", x.edge(0, e), e);
        }
        for (int e : new int[] {-1, 4, MIN, MAX}) {
            due("edge(0, " + e + ")", x.edge(0, e), -2);
        }
        due("nothing there", x.edge(1, 0), -2);
        due("no slot", x.edge(3, 0), -2);
        due("no slot", x.edge(-1, 0), -2);
    }

    static void promise9() {
        PegStrings x = grid("grid 3 2;");
        int[] cells = {0, 0, 1, 2, 2, 3, 4};
        int[] below = {0, 1, 1, 0, 1, 1, 0};
        for (int e = 0; e < 7; e++) {
            due("cell of " + e, x.name(0, e, 0), cells[e]);
            due("below of " + e, x.name(0, e, 1), below[e]);
        }
        for (int bad : new int[] {-1, 7, MIN, MAX}) {
            due("name(0, " + bad + ", 0)", x.name(0, bad, 0), -2);
            due("name(0, 0, " + bad + ")", x.name(0, 0, bad), -2);
            due("name(" + bad + ", 0, 0)", x.name(bad, 0, 0), -2);
        }
        due("what 2", x.name(0, 0, 2), -2);
        due("nothing there", x.name(1, 0, 0), -2);
    }

    static void promise10() {
        PegStrings x = grid("grid 3 2;");
        int[] right = {0, -1, 3, -1, 6, -1};
        int[] below = {1, 2, 4, 5, -1, -1};
        for (int cell = 0; cell < 6; cell++) {
            due("right of " + cell, x.edgeOf(0, cell, 0), right[cell]);
            due("below " + cell, x.edgeOf(0, cell, 1), below[cell]);
        }
        for (int bad : new int[] {-1, 6, MIN, MAX}) {
            due("edgeOf(0, " + bad + ", 0)", x.edgeOf(0, bad, 0), -2);
            due("edgeOf(0, 1, " + bad + ")", x.edgeOf(0, 1, bad), -2);
            due("edgeOf(" + bad + ", 1, 0)", x.edgeOf(bad, 1, 0), -2);
        }
        due("below 2, ahead of NONE", x.edgeOf(0, 5, 2), -2);
        due("nothing there", x.edgeOf(2, 0, 0), -2);
    }

    static void promise11() {
        PegStrings x = grid("grid 1 3;wall 0 right;");
        for (int corner = 0; corner < 4; corner++) {
            due("the peg alone", x.strand(0, 0, corner), 0);
            due("the other two", x.strand(0, 1, corner), 1);
            due("the other two", x.strand(0, 2, corner), 1);
        }
        x = grid("grid 2 2;");
        int[] wants = {0, 1, 0, 0, 1, 1, 0, 1, 0, 1, 1, 1, 0, 0, 0, 1};
        for (int i = 0; i < 16; i++) {
            due("corner " + i, x.strand(0, i / 4, i % 4), wants[i]);
        }
        // The ring of gaps: the corners at the middle are the second strand.
        x = grid("grid 2 2;gap 0 right,0 below,1 below,2 right;");
        int[] ring = {0, 1, 0, 0, 0, 0, 1, 0, 1, 0, 0, 0, 0, 0, 0, 1};
        for (int i = 0; i < 16; i++) {
            due("corner " + i, x.strand(0, i / 4, i % 4), ring[i]);
        }
        for (int bad : new int[] {-1, 4, MIN, MAX}) {
            due("no cell", x.strand(0, bad, 0), -2);
            due("no corner", x.strand(0, 0, bad), -2);
            due("no slot", x.strand(bad, 0, 0), -2);
        }
        due("nothing there", x.strand(1, 0, 0), -2);
    }

    static void promise12() {
        PegStrings x = grid("grid 1 2;");
        int[] wants = {0, 5, 6, 7, 3, 2, 1, 4};
        for (int i = 0; i < 8; i++) {
            due("corner " + i, x.place(0, i / 4, i % 4), wants[i]);
        }
        for (int bad : new int[] {-1, 4, MIN, MAX}) {
            due("no cell", x.place(0, bad, 0), -2);
            due("no corner", x.place(0, 0, bad), -2);
            due("no slot", x.place(bad, 0, 0), -2);
        }
        due("nothing there", x.place(1, 0, 0), -2);
    }

    private static void dueWalk(String text, int strand, int... wants) {
        PegStrings x = grid(text);
        for (int i = 0; i < wants.length; i++) {
            due(text + " walk " + strand + ", " + i, x.walk(0, strand, i), wants[i]);
        }
        due("not so many", x.walk(0, strand, wants.length), -1);
        due("length", x.length(0, strand), wants.length);
    }

    static void promise13() {
        dueWalk("grid 1 1;", 0, 0, 1, 2, 3);
        dueWalk("grid 1 2;", 0, 0, 6, 5, 4, 7, 1, 2, 3);
        dueWalk("grid 1 2;turn 0 right;", 0, 0, 6, 5, 4, 7, 1, 2, 3);
        dueWalk("grid 1 2;gap 0 right;", 0, 0, 7, 4, 5, 6, 1, 2, 3);
        dueWalk("grid 1 2;wall 0 right;", 1, 4, 5, 6, 7);
        dueWalk("grid 2 1;", 0, 0, 1, 7, 6, 5, 4, 2, 3);
        dueWalk("grid 2 1;gap 0 below;", 0, 0, 1, 4, 5, 6, 7, 2, 3);
        dueWalk("grid 2 1;wall 0 below;", 1, 4, 5, 6, 7);
        dueWalk("grid 2 2;gap 0 right,0 below,1 below,2 right;", 1, 1, 8, 15, 6);
        PegStrings x = grid("grid 1 1;");
        due("not so many", x.walk(0, 0, MAX), -1);
        due("below 0", x.walk(0, 0, -1), -2);
        due("below 0", x.walk(0, 0, MIN), -2);
        due("no strand", x.walk(0, 1, 0), -2);
        due("no strand, ahead of NONE", x.walk(0, 1, 100), -2);
        due("no strand", x.walk(0, -1, 0), -2);
        due("no slot", x.walk(3, 0, 0), -2);
        due("nothing there", x.walk(1, 0, 0), -2);
    }

    static void promise14() {
        PegStrings x = grid("grid 3 3;");
        // The one through the cells' slants meets each side of the square once, the two others as well.
        int sum = 0;
        for (int s = 0; s < 3; s++) {
            due("length of " + s, x.length(0, s), 12);
            sum += x.length(0, s);
        }
        due("all corners", sum, 36);
        for (int bad : new int[] {-1, 3, MIN, MAX}) {
            due("no strand", x.length(0, bad), -2);
            due("no slot", x.length(bad, 0), -2);
        }
        due("nothing there", x.length(1, 0), -2);
        due("one strand", grid("grid 4 3;").length(0, 0), 48);
    }

    static void promise15() {
        PegStrings x = grid("grid 3 3;");
        due("0 and 1", x.meets(0, 0, 1), 4);
        due("1 and 0", x.meets(0, 1, 0), 4);
        due("all", x.meets(0, 0, 1) + x.meets(0, 0, 2) + x.meets(0, 1, 2)
                + x.meets(0, 0, 0) + x.meets(0, 1, 1) + x.meets(0, 2, 2), 12);
        due("with itself", grid("grid 2 3;turn 1 right;").meets(0, 0, 0), 7);
        x.all(0, 0, 3);
        due("no crosses", x.meets(0, 0, 1), 0);
        for (int bad : new int[] {-1, 5, MIN, MAX}) {
            due("no strand", x.meets(0, bad, 0), -2);
            due("no strand", x.meets(0, 0, bad), -2);
            due("no slot", x.meets(bad, 0, 0), -2);
        }
        due("nothing there", x.meets(1, 0, 0), -2);
    }

    static void promise16() {
        PegStrings x = grid("grid 2 2;turn 0 right;");
        due("0 over 1", x.over(0, 0, 1), 1);
        due("1 over 0", x.over(0, 1, 0), 3);
        x.under(0);
        due("0 over 1", x.over(0, 0, 1), 3);
        due("1 over 0", x.over(0, 1, 0), 1);
        due("0 over itself", x.over(0, 0, 0), 0);
        // Falls from left to right at a right cross, rises at one below: all four, one by one.
        String[] grids = {"grid 2 2;", "grid 2 2;turn 0 right;", "grid 2 2;turn 0 below;", "grid 2 2;turn 1 below;",
            "grid 2 2;turn 2 right;"};
        int[] wants = {2, 1, 3, 3, 1};
        for (int i = 0; i < 5; i++) {
            due(grids[i], grid(grids[i]).over(0, 0, 1), wants[i]);
        }
        due("with itself", grid("grid 2 3;turn 1 right;").over(0, 0, 0), 7);
        for (int bad : new int[] {-1, 2, MIN, MAX}) {
            due("no strand", x.over(0, bad, 0), -2);
            due("no strand", x.over(0, 0, bad), -2);
            due("no slot", x.over(bad, 0, 0), -2);
        }
    }

    static void promise17() {
        due("right", grid("grid 1 2;").sign(0, 0), 0);
        due("right, turned", grid("grid 1 2;turn 0 right;").sign(0, 0), 1);
        // Down to the left over, then down to the right under: that one comes from the right to the left.
        due("below", grid("grid 2 1;").sign(0, 0), 0);
        due("below, turned", grid("grid 2 1;turn 0 below;").sign(0, 0), 1);
        PegStrings x = grid("grid 2 2;wall 0 right;gap 0 below;");
        due("a wall", x.sign(0, 0), -1);
        due("a gap", x.sign(0, 1), -1);
        for (int bad : new int[] {-1, 4, MIN, MAX}) {
            due("no edge", x.sign(0, bad), -2);
            due("no slot", x.sign(bad, 0), -2);
        }
        due("nothing there", x.sign(1, 0), -2);
        // Hopf's link, whose strands go round unlike, then alike hands.
        x = grid("grid 2 2;gap 0 right,2 right;");
        due("sign", x.sign(0, 1), 0);
        due("sign", x.sign(0, 2), 0);
    }

    static void promise18() {
        // Each cross between two pegs in a row is a kink.
        PegStrings x = grid("grid 1 4;");
        due("twist", x.twist(0, 0), -3);
        x.sets(0, 1, 1);
        due("twist", x.twist(0, 0), -1);
        x.under(0);
        due("twist", x.twist(0, 0), 1);
        x = grid("grid 2 2;");
        due("no crosses with itself", x.twist(0, 0), 0);
        // The trefoil: all crosses have one sign.
        due("trefoil", Math.abs(grid("grid 2 2;gap 0 right;").twist(0, 0)), 3);
        for (int bad : new int[] {-1, 2, MIN, MAX}) {
            due("no strand", x.twist(0, bad), -1000);
            due("no slot", x.twist(bad, 0), -1000);
        }
        due("no slot", x.twist(3, 0), -1000);
        due("nothing there", x.twist(1, 0), -1000);
    }

    static void promise19() {
        PegStrings x = grid("grid 2 2;");
        due("link", x.link(0, 0, 1), -2);
        due("link", x.link(0, 1, 0), -2);
        x.sets(0, 0, 1);
        due("one turned", x.link(0, 0, 1), -1);
        x.sets(0, 3, 1);
        due("two turned", x.link(0, 0, 1), 0);
        x.sets(0, 1, 1);
        due("three turned", x.link(0, 0, 1), 1);
        due("one and the same", x.link(0, 0, 0), -1000);
        for (int bad : new int[] {-1, 2, MIN, MAX}) {
            due("no strand", x.link(0, bad, 0), -1000);
            due("no strand", x.link(0, 0, bad), -1000);
            due("no slot", x.link(bad, 0, 1), -1000);
        }
        due("nothing there", x.link(1, 0, 1), -1000);
        x.all(0, 0, 3);
        x.all(0, 1, 3);
        due("they do not meet", x.link(0, 0, 1), 0);
    }

    static void promise20() {
        PegStrings x = grid("grid 4 4;wall 0 right,5 below;gap 10 right,9 below;");
        for (int s = 0; s < x.look(0, 7); s++) {
            due("crosses alone are in turn", x.alternates(0, s), 1);
        }
        x = grid("grid 2 2;turn 0 right;");
        due("one turned", x.alternates(0, 0), 0);
        due("one turned", x.alternates(0, 1), 0);
        x.under(0);
        due("three turned", x.alternates(0, 0), 0);
        x.sets(0, 0, 1);
        due("all turned", x.alternates(0, 0), 1);
        due("without crosses", grid("grid 1 1;").alternates(0, 0), 1);
        due("one cross", grid("grid 2 1;turn 0 below;").alternates(0, 0), 1);
        // Over, over: in turn nowhere.
        x = grid("grid 2 2;gap 0 right,2 right;turn 0 below;");
        due("above all", x.alternates(0, 0), 0);
        due("below all", x.alternates(0, 1), 0);
        for (int bad : new int[] {-1, 2, MIN, MAX}) {
            due("no strand", x.alternates(0, bad), -2);
            due("no slot", x.alternates(bad, 0), -2);
        }
        due("nothing there", x.alternates(1, 0), -2);
    }

    private static void duePassed(String text, int strand, int... wants) {
        PegStrings x = grid(text);
        for (int i = 0; i < wants.length; i++) {
            due(text + " passed " + strand + ", " + i, x.passed(0, strand, i), wants[i]);
        }
        due("not so many", x.passed(0, strand, wants.length), -1);
    }

    static void promise21() {
        duePassed("grid 1 3;", 0, 0, 1, 1, 0);
        duePassed("grid 1 3;wall 0 right;", 0);
        duePassed("grid 1 3;wall 0 right;", 1, 1, 1);
        duePassed("grid 2 2;", 1, 1, 3, 2, 0);
        duePassed("grid 3 1;gap 0 below;", 0, 1, 1);
        PegStrings x = grid("grid 1 2;");
        due("not so many", x.passed(0, 0, MAX), -1);
        due("below 0", x.passed(0, 0, -1), -2);
        due("below 0", x.passed(0, 0, MIN), -2);
        for (int bad : new int[] {-1, 1, MIN, MAX}) {
            due("no strand", x.passed(0, bad, 0), -2);
            due("no slot", x.passed(bad, 0, 0), -2);
        }
    }

    static void promise22() {
        // In the trefoil each two crosses are passed in turn, in a row of pegs none.
        PegStrings x = grid("grid 2 2;gap 0 right;");
        due("1, 2", x.interlaced(0, 1, 2), 1);
        due("2, 3", x.interlaced(0, 2, 3), 1);
        due("3, 1", x.interlaced(0, 3, 1), 1);
        due("a gap", x.interlaced(0, 0, 1), -1);
        due("a gap", x.interlaced(0, 1, 0), -1);
        due("like ones", x.interlaced(0, 1, 1), -1);
        x = grid("grid 1 4;turn 1 right;");
        due("0, 1", x.interlaced(0, 0, 1), 0);
        due("0, 2", x.interlaced(0, 0, 2), 0);
        due("2, 1", x.interlaced(0, 2, 1), 0);
        x = grid("grid 1 4;wall 1 right;");
        due("of two strands", x.interlaced(0, 0, 2), -1);
        x = grid("grid 2 2;");
        due("not with themselves", x.interlaced(0, 0, 3), -1);
        for (int bad : new int[] {-1, 4, MIN, MAX}) {
            due("no edge", x.interlaced(0, bad, 0), -2);
            due("no edge", x.interlaced(0, 0, bad), -2);
            due("no edge, ahead of NONE", x.interlaced(0, bad, bad), -2);
            due("no slot", x.interlaced(bad, 0, 1), -2);
        }
        due("nothing there", x.interlaced(1, 0, 1), -2);
    }

    static void promise23() {
        PegStrings x = grid("grid 1 4;wall 0 right,2 right;");
        due("0", x.visits(0, 0), 1);
        due("1", x.visits(0, 1), 6);
        due("2", x.visits(0, 2), 8);
        due("all 12", grid("grid 4 3;").visits(0, 0), 4095);
        // A slanting rectangle: two corner cells lie outside it, two others within.
        due("a rectangle", grid("grid 4 4;").visits(0, 1), 0xffff - (1 << 3) - (1 << 5) - (1 << 10) - (1 << 12));
        for (int bad : new int[] {-1, 3, MIN, MAX}) {
            due("no strand", x.visits(0, bad), -2);
            due("no slot", x.visits(bad, 0), -2);
        }
        due("nothing there", x.visits(1, 0), -2);
    }

    static void promise24() {
        // Over each cross in a row the other hand; round a peg beyond a gap the same one.
        PegStrings x = grid("grid 1 4;gap 1 right;");
        int[] wants = {1, -1, -1, 1};
        for (int cell = 0; cell < 4; cell++) {
            due("cell " + cell, x.winds(0, 0, cell), wants[cell]);
        }
        x = grid("grid 4 1;wall 1 below;");
        due("not round those of others", x.winds(0, 0, 2), 0);
        due("not round those of others", x.winds(0, 1, 1), 0);
        due("its own", x.winds(0, 1, 2), 1);
        // The ring: outside round all four, within round none.
        x = grid("grid 2 2;gap 0 right,0 below,1 below,2 right;");
        for (int cell = 0; cell < 4; cell++) {
            due("outside", x.winds(0, 0, cell), 1);
            due("within", x.winds(0, 1, cell), 0);
        }
        // Slanting rectangles: one from corner to corner as a clock's hand goes, a wider one the other way.
        x = grid("grid 4 4;");
        for (int cell = 0; cell < 16; cell++) {
            int apart = Math.abs(cell % 4 - cell / 4);
            int sum = cell % 4 + cell / 4;
            due("the first, " + cell, x.winds(0, 0, cell), apart == 0 ? 1 : 0);
            due("the second, " + cell, x.winds(0, 1, cell), apart < 2 && sum > 0 && sum < 6 ? -1 : 0);
        }
        for (int bad : new int[] {-1, 16, MIN, MAX}) {
            due("no strand", x.winds(0, bad, 0), -1000);
            due("no cell", x.winds(0, 0, bad), -1000);
            due("no slot", x.winds(bad, 0, 0), -1000);
        }
        due("nothing there", x.winds(1, 0, 0), -1000);
    }

    static void promise25() {
        PegStrings x = grid("grid 1 2;");
        int[] wants = {0, 1, 0, 1, 1, 0, 1, 0};
        for (int i = 0; i < 8; i++) {
            due("corner " + i, x.paint(0, i / 4, i % 4), wants[i]);
        }
        for (int bad : new int[] {-1, 4, MIN, MAX}) {
            due("no cell", x.paint(0, bad, 0), -2);
            due("no corner", x.paint(0, 0, bad), -2);
            due("no slot", x.paint(bad, 0, 0), -2);
        }
        due("nothing there", x.paint(1, 0, 0), -2);
    }

    static void promise26() {
        PegStrings x = grid("grid 2 3;turn 0 below;wall 1 right;gap 1 below;");
        for (int row = 0; row < 2; row++) {
            int sum = 0;
            for (int i = 0; i < 12; i++) {
                sum += x.paint(0, 3 * row + i / 4, i % 4);
            }
            due("row " + row, x.painted(0, 0, row), sum);
        }
        for (int column = 0; column < 3; column++) {
            int sum = 0;
            for (int i = 0; i < 8; i++) {
                sum += x.paint(0, column + i / 4 * 3, i % 4);
            }
            due("column " + column, x.painted(0, 1, column), sum);
        }
        due("no row", x.painted(0, 0, 2), -2);
        due("no column", x.painted(0, 1, 3), -2);
        for (int bad : new int[] {-1, 4, MIN, MAX}) {
            due("no row", x.painted(0, 0, bad), -2);
            due("no column", x.painted(0, 1, bad), -2);
            due("neither", x.painted(0, bad, 0), -2);
            due("no slot", x.painted(bad, 0, 0), -2);
        }
        due("neither", x.painted(0, 2, 0), -2);
        due("nothing there", x.painted(1, 0, 0), -2);
    }

    static void promise27() {
        PegStrings x = grid("grid 4 4;");
        due("walls", x.loops(0, 0L), 16);
        due("gaps: the rim, and round each point within", x.loops(0, (1L << 24) - 1), 10);
        due("bits of none", x.loops(0, 1L << 24), -2);
        due("bits of none", x.loops(0, 1L << 32), -2);
        due("bits of none", x.loops(0, 1L << 63), -2);
        due("bits of none", x.loops(0, -1L), -2);
        due("the grid stays", x.look(0, 3), 24);
        // Bit i is that of the i-th cross, turned or not: the edges 1 and 3 here.
        x = grid("grid 2 2;turn 2 right;wall 0 right;gap 1 below;");
        due("walls", x.loops(0, 0L), 3);
        due("the first a gap", x.loops(0, 1L), 2);
        due("the second a gap", x.loops(0, 2L), 2);
        due("both", x.loops(0, 3L), 1);
        due("bits of none", x.loops(0, 4L), -2);
        x = grid("grid 1 4;wall 0 right,1 right;");
        due("wall", x.loops(0, 0L), 4);
        due("gap", x.loops(0, 1L), 3);
        due("bits of none", x.loops(0, 4L), -2);
        for (int slot : NO_SLOTS) {
            due("no slot", x.loops(slot, 0L), -2);
        }
        due("nothing there", x.loops(1, 0L), -2);
    }

    static void promise28() {
        // A row of pegs: one loop for each part between walls.
        PegStrings x = grid("grid 1 4;turn 1 right;");
        int[] row = {0, 1, 3, 3, 1, 0};
        for (int n = 0; n < 6; n++) {
            due("row, " + n, x.settings(0, n), row[n]);
        }
        // Twelve crosses: compared with loops() for all 4096 ways; the ones with one loop are trees.
        int[] found = new int[20];
        for (long set = 0; set < 4096; set++) {
            // No object is asked for more calls than the document promises.
            x = set % 400 == 0 ? grid("grid 3 3;turn 4 right;") : x;
            found[x.loops(0, set)]++;
        }
        x = grid("grid 3 3;turn 4 right;");
        for (int n = 0; n < 20; n++) {
            due("3 by 3, " + n, x.settings(0, n), found[n]);
        }
        due("trees", x.settings(0, 1), 192);
        due("far too many loops", x.settings(0, MAX), 0);
        PegStrings walls = grid("grid 4 4;");
        walls.all(0, 0, 2);
        due("all apart", walls.settings(0, 16), 1);
        due("all apart", walls.settings(0, 15) + walls.settings(0, 17) + walls.settings(0, 1), 0);
        due("below 0", x.settings(0, -1), -2);
        due("below 0", x.settings(0, MIN), -2);
        tells(x, 1, "grid 3 4;wall 0 right,0 below,1 right,1 below;");
        due("13 crosses", x.look(1, 3), 13);
        due("too many", x.settings(1, 1), -5);
        due("below 0, ahead of -5", x.settings(1, -1), -2);
        x.sets(1, 5, 3);
        due("12 crosses, two cells alone", x.settings(1, 3) > 0 ? 1 : 0, 1);
        for (int slot : NO_SLOTS) {
            due("no slot", x.settings(slot, 1), -2);
        }
        due("nothing there", x.settings(2, 1), -2);
    }

    private static void dueTerms(String what, PegStrings x, boolean smooth, int... powersAndTimes) {
        long[] wants = new long[201];
        for (int i = 0; i < powersAndTimes.length; i += 2) {
            wants[powersAndTimes[i] + 100] = powersAndTimes[i + 1];
        }
        for (int k = -100; k <= 100; k++) {
            due(what + ", A to the " + k, smooth ? x.smooth(0, k) : x.bracket(0, k), wants[k + 100]);
        }
    }

    /** The bracket by its own words: way for way, with loops() for each. */
    private static long[] termsOf(String text) {
        PegStrings x = grid(text);
        int[] kinds = new int[x.look(0, 2)];
        for (int e = 0; e < kinds.length; e++) {
            kinds[e] = x.edge(0, e);
        }
        int ways = ways(x);
        long[] terms = new long[201];
        for (int set = 0; set < ways; set++) {
            int power = 0;
            int bit = 0;
            for (int kind : kinds) {
                if (kind < 2) {
                    power += ((set >> bit & 1) == 1) == (kind == 0) ? 1 : -1;
                    bit++;
                }
            }
            long[] way = new long[201];
            way[power + 100] = 1;
            // No object is asked for more calls than the document promises.
            x = set % 400 == 0 ? grid(text) : x;
            for (int i = x.loops(0, set); i > 1; i--) {
                long[] times = new long[201];
                for (int k = 2; k < 199; k++) {
                    times[k + 2] -= way[k];
                    times[k - 2] -= way[k];
                }
                way = times;
            }
            for (int k = 0; k < 201; k++) {
                terms[k] += way[k];
            }
        }
        return terms;
    }

    private static final String[] MANY = {
        "grid 3 3;", "grid 3 3;turn 0 right,1 below,4 right,7 right;", "grid 4 4;wall 0 right,0 below,1 right,2 below,"
        + "5 right,6 below,7 below;gap 8 right,9 below,12 right,10 below,14 right;turn 3 below;",
        "grid 3 4;gap 0 right,5 right,10 right,3 below;wall 1 below;turn 2 right,8 right;",
    };

    private static void dueNoTerms(boolean smooth) {
        PegStrings x = grid("grid 1 1;");
        tells(x, 1, "grid 3 4;wall 0 right,0 below,1 right,1 below;");
        for (int k : new int[] {-101, 101, MIN, MAX}) {
            due("power " + k, smooth ? x.smooth(0, k) : x.bracket(0, k), -1000000000L);
        }
        for (int slot : new int[] {-1, 1, 2, 3, MIN, MAX}) {
            due("slot " + slot, smooth ? x.smooth(slot, 0) : x.bracket(slot, 0), -1000000000L);
        }
        x.all(1, 0, 1);
        due("13 turned crosses", smooth ? x.smooth(1, 0) : x.bracket(1, 0), -1000000000L);
        x.sets(1, 5, 2);
        due("12 crosses", (smooth ? x.smooth(1, 0) : x.bracket(1, 0)) != -1000000000L ? 1 : 0, 1);
    }

    static void promise29() {
        dueTerms("one loop", grid("grid 1 1;"), false, 0, 1);
        dueTerms("two loops", grid("grid 1 2;wall 0 right;"), false, 2, -1, -2, -1);
        dueTerms("three loops", grid("grid 1 3;wall 0 right,1 right;"), false, 4, 1, 0, 2, -4, 1);
        dueTerms("a kink", grid("grid 1 2;"), false, -3, -1);
        dueTerms("a turned kink", grid("grid 2 1;turn 0 below;"), false, 3, -1);
        dueTerms("two kinks", grid("grid 1 3;"), false, -6, 1);
        dueTerms("two kinks, one turned", grid("grid 1 3;turn 1 right;"), false, 0, 1);
        dueTerms("Hopf's link", grid("grid 2 2;gap 0 right,2 right;"), false, 4, -1, -4, -1);
        dueTerms("the trefoil", grid("grid 2 2;gap 0 right;"), false, -7, 1, -3, -1, 5, -1);
        dueTerms("the other trefoil", grid("grid 2 2;gap 0 right;turn 0 below,1 below,2 right;"), false,
                7, 1, 3, -1, -5, -1);
        for (String text : MANY) {
            PegStrings x = grid(text);
            due("12 crosses", x.look(0, 3), 12);
            long[] wants = termsOf(text);
            for (int k = -100; k <= 100; k++) {
                due(text + ", A to the " + k, x.bracket(0, k), wants[k + 100]);
            }
        }
        // Loops apart: (- A to the 2, - A to the -2) to the 15.
        PegStrings walls = grid("grid 4 4;");
        walls.all(0, 0, 2);
        due("A to the 30", walls.bracket(0, 30), -1);
        due("A to the 26", walls.bracket(0, 26), -15);
        due("A to the -2", walls.bracket(0, -2), -6435);
        due("A to the -30", walls.bracket(0, -30), -1);
        due("A to the 28", walls.bracket(0, 28), 0);
        dueNoTerms(false);
    }

    static void promise30() {
        dueTerms("one loop", grid("grid 1 1;"), true, 0, 1);
        dueTerms("kinks", grid("grid 1 4;turn 0 right;"), true, 0, 1);
        dueTerms("kinks", grid("grid 4 1;"), true, 0, 1);
        // Known from the books: the trefoils, and Hopf's link, whose strands go round one another once.
        PegStrings trefoil = grid("grid 2 2;gap 0 right;");
        int w = trefoil.twist(0, 0);
        due("all of one sign", Math.abs(w), 3);
        int hand = w > 0 ? -1 : 1;
        dueTerms("a trefoil", trefoil, true, 4 * hand, 1, 12 * hand, 1, 16 * hand, -1);
        trefoil.under(0);
        dueTerms("the other trefoil", trefoil, true, -4 * hand, 1, -12 * hand, 1, -16 * hand, -1);
        PegStrings hopf = grid("grid 2 2;gap 0 right,2 right;");
        int turn = hopf.link(0, 0, 1) > 0 ? -1 : 1;
        dueTerms("Hopf's link", hopf, true, 2 * turn, -1, 10 * turn, -1);
        // Kinks make no difference: eased, a line stays what it was.
        for (String text : new String[] {"grid 3 3;", "grid 3 3;turn 0 below,4 right;", "grid 2 4;turn 1 below,5 right;"}) {
            PegStrings x = grid(text);
            x.oneLine(0);
            long[] before = new long[201];
            for (int k = -100; k <= 100; k++) {
                before[k + 100] = x.smooth(0, k);
            }
            due("there are kinks", x.eases(0) > 0 ? 1 : 0, 1);
            for (int k = -100; k <= 100; k++) {
                due(text + ", A to the " + k, x.smooth(0, k), before[k + 100]);
            }
        }
        // A trefoil with a row of kinks beside it is the same.
        dueTerms("a trefoil with kinks", grid("grid 2 3;gap 0 right;wall 4 right;turn 1 right,2 below;"), true,
                4 * hand, 1, 12 * hand, 1, 16 * hand, -1);
        for (String text : MANY) {
            PegStrings x = grid(text);
            int signs = 0;
            for (int e = 0; e < x.look(0, 2); e++) {
                signs += x.sign(0, e) == 1 ? 1 : x.sign(0, e) == 0 ? -1 : 0;
            }
            for (int k = -60; k <= 60; k++) {
                due(text + ", A to the " + k, x.smooth(0, k), (signs % 2 == 0 ? 1 : -1) * x.bracket(0, k + 3 * signs));
            }
        }
        dueNoTerms(true);
    }

    static void promise31() {
        due("one cell", grid("grid 1 1;").trees(0), 1);
        due("a row", grid("grid 1 4;").trees(0), 1);
        due("2 by 3", grid("grid 2 3;").trees(0), 15);
        due("3 by 3", grid("grid 3 3;turn 0 right,4 below;").trees(0), 192);
        due("4 by 3", grid("grid 4 3;").trees(0), 2415);
        due("4 by 4", grid("grid 4 4;").trees(0), 100352);
        due("a triangle", grid("grid 2 2;gap 0 right;").trees(0), 3);
        due("two ways", grid("grid 2 2;gap 0 right,2 right;").trees(0), 2);
        due("a cross of one with itself", grid("grid 2 2;gap 0 right,0 below,1 below;").trees(0), 1);
        due("they can not", grid("grid 2 2;wall 0 right,2 right;").trees(0), 0);
        due("they can not", grid("grid 4 4;wall 11 below,14 right;").trees(0), 0);
        due("they can not", grid("grid 4 4;wall 0 right,0 below;").trees(0), 0);
        PegStrings x = grid("grid 1 2;wall 0 right;");
        due("they can not", x.trees(0), 0);
        for (int slot : NO_SLOTS) {
            due("no slot", x.trees(slot), -2);
        }
        due("nothing there", x.trees(1), -2);
    }

    static void promise32() {
        int[] primes = {2, 3, 5, 7, 11, 13};
        int[] trefoil = {1, 2, 1, 1, 1, 1};
        int[] hopf = {2, 1, 1, 1, 1, 1};
        for (int i = 0; i < 6; i++) {
            due("trefoil, " + primes[i], grid("grid 2 2;gap 0 right;").colours(0, primes[i]), trefoil[i]);
            due("hopf, " + primes[i], grid("grid 2 2;gap 0 right,2 right;").colours(0, primes[i]), hopf[i]);
            due("kinks, " + primes[i], grid("grid 1 4;turn 1 right;").colours(0, primes[i]), 1);
            due("loops apart, " + primes[i], grid("grid 1 4;wall 0 right,2 right;").colours(0, primes[i]), 3);
        }
        // Where all crosses are alike there is more than one kind of numbers just if p divides the trees.
        String[] texts = {"grid 2 3;", "grid 2 4;", "grid 3 4;", "grid 4 4;", "grid 3 3;gap 4 right;", "grid 3 4;wall 0 right;"};
        for (String text : texts) {
            PegStrings x = grid(text);
            for (int p : primes) {
                due(text + " " + p, x.colours(0, p) > 1 ? 1 : 0, x.trees(0) % p == 0 ? 1 : 0);
            }
        }
        PegStrings x = grid("grid 2 2;gap 0 right,2 right;turn 0 below;");
        due("never under, never over: 3 numbers each", x.colours(0, 3), 2);
        for (int p : new int[] {-3, 0, 1, 4, 6, 8, 9, 10, 12, 14, 17, MIN, MAX}) {
            due("modulo " + p, x.colours(0, p), -2);
        }
        for (int slot : NO_SLOTS) {
            due("no slot", x.colours(slot, 3), -2);
        }
        due("nothing there", x.colours(1, 3), -2);
    }

    static void promise33() {
        due("one strand", grid("grid 4 3;").needs(0), 0);
        due("4 by 4", grid("grid 4 4;").needs(0), 3);
        due("3 by 3", grid("grid 3 3;turn 0 right;").needs(0), 2);
        due("two pieces", grid("grid 1 2;wall 0 right;").needs(0), -1);
        due("two pieces, with crosses", grid("grid 2 4;wall 1 right,5 right;").needs(0), -1);
        due("a ring", grid("grid 2 2;gap 0 right,0 below,1 below,2 right;").needs(0), -1);
        PegStrings x = grid("grid 1 1;");
        for (int slot : NO_SLOTS) {
            due("no slot", x.needs(slot), -2);
        }
        due("nothing there", x.needs(1), -2);
    }

    /** The first edge at which a cell's two corners belong to two strands. */
    private static int firstOfTwo(PegStrings x) {
        for (int e = 0; e < x.look(0, 2); e++) {
            int cell = x.name(0, e, 0);
            int corner = x.name(0, e, 1);
            if (x.edge(0, e) < 2 && x.strand(0, cell, corner) != x.strand(0, cell, corner + 1)) {
                return e;
            }
        }
        return -1;
    }

    static void promise34() {
        PegStrings x = grid("grid 4 4;");
        due("how many", x.oneLine(0), 3);
        due("one strand", x.look(0, 7), 1);
        due("walls", x.look(0, 5), 3);
        due("the first", x.edge(0, 0), 2);
        due("an act", x.count(1), 2);
        due("again", x.oneLine(0), 0);
        due("no act", x.count(1), 2);
        x = grid("grid 2 2;turn 0 right;");
        due("how many", x.oneLine(0), 1);
        dueText("a turned one, too", textIn(x, 0), "grid 2 2;wall 0 right;");
        // Those of a strand with itself are left as they are.
        x = grid("grid 3 3;gap 0 right;");
        due("strands", x.look(0, 7), 2);
        int first = firstOfTwo(x);
        due("not the first cross", first > 1 ? 1 : 0, 1);
        due("how many", x.oneLine(0), 1);
        due("the first of two strands", x.edge(0, first), 2);
        x = grid("grid 2 4;wall 1 right,5 right;");
        due("more than one", x.oneLine(0), -6);
        dueText("nothing happens", textIn(x, 0), "grid 2 4;wall 1 right,5 right;");
        due("no act", x.count(1), 1);
        for (int slot : NO_SLOTS) {
            due("no slot", x.oneLine(slot), -2);
        }
        due("nothing there", x.oneLine(1), -2);
    }

    static void promise35() {
        PegStrings x = grid("grid 1 4;turn 1 right;");
        due("three kinks", x.eases(0), 3);
        dueText("gaps", textIn(x, 0), "grid 1 4;gap 0 right,1 right,2 right;");
        due("an act", x.count(1), 2);
        due("again", x.eases(0), 0);
        due("no act", x.count(1), 2);
        // A kink round a point within, where a wall leaves one strand.
        x = grid("grid 2 2;gap 0 right,0 below,1 below;");
        due("strands", x.look(0, 7), 1);
        due("one kink", x.eases(0), 1);
        dueText("a wall", textIn(x, 0), "grid 2 2;wall 2 right;gap 0 right,0 below,1 below;");
        due("strands", x.look(0, 7), 1);
        x = grid("grid 2 2;");
        due("no kinks", x.eases(0), 0);
        x = grid("grid 2 2;gap 0 right;");
        due("no kinks in the trefoil", x.eases(0), 0);
        due("no act", x.count(1), 1);
        // One of the trefoil's pegs with a row behind it.
        x = grid("grid 2 3;gap 0 right;wall 4 right;turn 1 right;");
        due("two kinks", x.eases(0), 2);
        due("the trefoil is left", x.look(0, 3), 3);
        due("two strands stay two", grid("grid 1 4;wall 1 right;").eases(0), 2);
        for (int slot : NO_SLOTS) {
            due("no slot", x.eases(slot), -2);
        }
        due("nothing there", x.eases(1), -2);
    }

    static void promise36() {
        PegStrings x = grid("grid 2 2;");
        for (int how = 1; how < 4; how++) {
            due("sets", x.sets(0, 2, how), how - 1);
            due("edge", x.edge(0, 2), how);
        }
        due("acts", x.count(1), 4);
        due("the same", x.sets(0, 2, 3), 3);
        due("no act", x.count(1), 4);
        due("back", x.sets(0, 2, 0), 3);
        for (int bad : new int[] {-1, 4, MIN, MAX}) {
            due("no edge", x.sets(0, bad, 0), -2);
            due("no way", x.sets(0, 0, bad), -2);
            due("no slot", x.sets(bad, 0, 0), -2);
        }
        due("nothing there", x.sets(1, 0, 0), -2);
        due("acts", x.count(1), 5);
        dueText("the others stay", textIn(x, 0), "grid 2 2;");
    }

    static void promise37() {
        PegStrings x = grid("grid 2 3;turn 0 right,1 right;wall 2 below;");
        due("crosses", x.all(0, 0, 3), 4);
        dueText("gaps", textIn(x, 0), "grid 2 3;turn 0 right,1 right;wall 2 below;gap 0 below,1 below,3 right,4 right;");
        due("turned", x.all(0, 1, 2), 2);
        due("walls", x.all(0, 2, 0), 3);
        due("acts", x.count(1), 4);
        due("none such", x.all(0, 2, 0), 0);
        due("one", x.all(0, 3, 3), 0);
        due("no acts", x.count(1), 4);
        dueText("left", textIn(x, 0), "grid 2 3;gap 0 below,1 below,3 right,4 right;");
        for (int bad : new int[] {-1, 4, MIN, MAX}) {
            due("no way", x.all(0, bad, 0), -2);
            due("no way", x.all(0, 0, bad), -2);
            due("no way, twice", x.all(0, bad, bad), -2);
            due("no slot", x.all(bad, 0, 1), -2);
        }
        due("nothing there", x.all(1, 0, 1), -2);
    }

    static void promise38() {
        PegStrings x = grid("grid 2 3;turn 0 right,1 right;wall 2 below;gap 4 right;");
        due("under", x.under(0), 5);
        dueText("turned", textIn(x, 0), "grid 2 3;turn 0 below,1 below,3 right;wall 2 below;gap 4 right;");
        due("acts", x.count(1), 2);
        x = grid("grid 1 3;wall 0 right;gap 1 right;");
        due("none", x.under(0), 0);
        due("no act", x.count(1), 1);
        for (int slot : NO_SLOTS) {
            due("no slot", x.under(slot), -2);
        }
        due("nothing there", x.under(1), -2);
    }

    static void promise39() {
        PegStrings x = grid("grid 2 3;turn 0 right;wall 2 below;gap 4 right;");
        due("rows", x.quarter(0), 3);
        // 0 1 2 / 3 4 5 becomes 3 0 / 4 1 / 5 2.
        dueText("turned", textIn(x, 0), "grid 3 2;turn 1 below;wall 4 right;gap 2 below;");
        due("rows", x.quarter(0), 2);
        dueText("twice", textIn(x, 0), "grid 2 3;turn 4 right;wall 0 below;gap 0 right;");
        due("rows", x.quarter(0), 3);
        due("rows", x.quarter(0), 2);
        dueText("four times", textIn(x, 0), "grid 2 3;turn 0 right;wall 2 below;gap 4 right;");
        due("acts", x.count(1), 5);
        x = grid("grid 4 4;");
        due("rows", x.quarter(0), 4);
        due("no act", x.count(1), 1);
        for (int slot : NO_SLOTS) {
            due("no slot", x.quarter(slot), -2);
        }
        due("nothing there", x.quarter(1), -2);
    }

    static void promise40() {
        PegStrings x = grid("grid 2 3;turn 0 right;wall 2 below;gap 4 right;");
        due("strands", x.mirror(0), x.look(0, 7));
        // 0 1 2 / 3 4 5 becomes 2 1 0 / 5 4 3; turned are the crosses that were not.
        dueText("mirrored", textIn(x, 0), "grid 2 3;turn 0 right,1 below,2 below,4 right;wall 0 below;gap 3 right;");
        x.mirror(0);
        dueText("twice", textIn(x, 0), "grid 2 3;turn 0 right;wall 2 below;gap 4 right;");
        due("acts", x.count(1), 3);
        due("strands", grid("grid 3 3;").mirror(0), 3);
        x = grid("grid 1 3;gap 0 right,1 right;");
        due("strands", x.mirror(0), 1);
        due("no act", x.count(1), 1);
        for (int slot : NO_SLOTS) {
            due("no slot", x.mirror(slot), -2);
        }
        due("nothing there", x.mirror(1), -2);
    }

    static void promise41() {
        PegStrings x = grid("grid 2 1;wall 0 below;");
        tells(x, 1, "grid 2 3;turn 0 right;gap 1 below,4 right;");
        due("columns", x.beside(0, 1, 3, 2), 4);
        dueText("beside", textIn(x, 2), "grid 2 4;turn 1 right;wall 0 below;gap 0 right,2 below,4 right,6 right;");
        due("columns", x.beside(1, 0, 0, 2), 4);
        dueText("the other way", textIn(x, 2), "grid 2 4;turn 0 right;wall 3 below;gap 1 below,5 right;");
        due("acts", x.count(1), 4);
        due("the same", x.beside(1, 0, 0, 2), 4);
        due("no act", x.count(1), 4);
        due("into itself", x.beside(0, 0, 1, 0), 2);
        dueText("into itself", textIn(x, 0), "grid 2 2;turn 0 right,2 right;wall 0 below,1 below;");
        due("above 4", x.beside(0, 1, 0, 2), -5);
        tells(x, 2, "grid 1 1;");
        due("not one R", x.beside(2, 0, 0, 0), -6);
        due("not one R", x.beside(1, 2, 0, 0), -6);
        tells(x, 2, "grid 1 4;");
        due("-5 ahead of -6", x.beside(2, 0, 0, 1), -5);
        for (int bad : new int[] {-1, 4, MIN, MAX}) {
            due("no slot", x.beside(bad, 0, 0, 0), -2);
            due("no slot", x.beside(0, bad, 0, 0), -2);
            due("no way, ahead of -5", x.beside(0, 1, bad, 0), -2);
            due("no slot, ahead of -6", x.beside(2, 0, 0, bad), -2);
        }
        x.drops(1);
        due("nothing there", x.beside(1, 0, 0, 0), -2);
        due("nothing there", x.beside(0, 1, 0, 0), -2);
        due("into nothing", x.beside(0, 0, 2, 1), 4);
    }

    static void promise42() {
        String text = "grid 2 3;turn 0 right;wall 2 below;gap 4 right;";
        PegStrings x = grid(text);
        for (int turn = 0; turn < 8; turn++) {
            tells(x, 1, text);
            for (int i = 0; i < turn % 4; i++) {
                x.quarter(1);
            }
            if (turn > 3) {
                x.mirror(1);
            }
            due("turned by " + turn, x.alike(0, 1), 1);
            due("and back", x.alike(1, 0), 1);
            x.sets(1, 0, (x.edge(1, 0) + 1) % 4);
            due("changed", x.alike(0, 1), 0);
        }
        due("itself", x.alike(0, 0), 1);
        tells(x, 1, "grid 1 2;");
        tells(x, 2, "grid 2 1;turn 0 below;");
        due("a mirrored cross is turned", x.alike(1, 2), 1);
        tells(x, 1, "grid 2 2;");
        tells(x, 2, "grid 2 2;turn 0 right,0 below,1 below;");
        due("three are not four", x.alike(1, 2), 0);
        tells(x, 2, "grid 1 4;");
        due("other sides", x.alike(1, 2), 0);
        for (int bad : NO_SLOTS) {
            due("no slot", x.alike(bad, 0), -2);
            due("no slot", x.alike(0, bad), -2);
        }
        x.drops(2);
        due("nothing there", x.alike(2, 0), -2);
        due("nothing there", x.alike(0, 2), -2);
        due("no act", x.count(1) <= 10 ? 1 : 0, 1);
    }

    private static void dueSame(String text, int quarter, int two, int mirror, int both) {
        PegStrings x = grid(text);
        int[] wants = {quarter, two, mirror, both};
        for (int what = 0; what < 4; what++) {
            due(text + " same " + what, x.same(0, what), wants[what]);
        }
        dueText("it stays", textIn(x, 0).replace(" ", ""), text.replace(" ", ""));
        for (int bad : new int[] {-1, 4, MIN, MAX}) {
            due("no such what", x.same(0, bad), -2);
            due("no slot", x.same(bad, 0), -2);
        }
        due("nothing there", x.same(1, 0), -2);
    }

    static void promise43() {
        dueSame("grid 1 1;", 1, 1, 1, 1);
        dueSame("grid 1 2;", 0, 1, 0, 0);
        dueSame("grid 1 2;gap 0 right;", 0, 1, 1, 1);
        dueSame("grid 1 3;turn 0 right;", 0, 0, 1, 0);
        dueSame("grid 3 1;turn 0 below;", 0, 0, 0, 1);
        dueSame("grid 2 2;", 1, 1, 0, 0);
        dueSame("grid 2 2;wall 0 right,0 below,1 below,2 right;", 1, 1, 1, 1);
        dueSame("grid 2 2;wall 0 right,2 right;", 0, 1, 0, 0);
        dueSame("grid 2 2;wall 0 right,2 right;gap 0 below,1 below;", 0, 1, 1, 1);
        dueSame("grid 2 2;wall 0 right;gap 0 below,1 below,2 right;", 0, 0, 1, 0);
    }

    static void promise44() {
        for (int r = 1; r <= 4; r++) {
            for (int c = 1; c <= 4; c++) {
                due(r + " by " + c, grid("grid " + r + " " + c + ";").look(0, 7), new PegStrings().plain(r, c));
            }
        }
        PegStrings x = new PegStrings();
        due("1, 1", x.plain(1, 1), 1);
        due("1, 9999", x.plain(1, 9999), 1);
        due("9999, 9999", x.plain(9999, 9999), 9999);
        due("6765, 4181", x.plain(6765, 4181), 1);
        due("9990, 6660", x.plain(9990, 6660), 3330);
        for (int bad : new int[] {0, -1, -6, 10000, MIN, MAX}) {
            due("plain(" + bad + ", 6)", x.plain(bad, 6), -2);
            due("plain(6, " + bad + ")", x.plain(6, bad), -2);
        }
    }

    static void promise45() {
        PegStrings x = grid("grid 1 2;");
        due("drops", x.drops(0), 1);
        due("nothing there", x.look(0, 0), -2);
        due("an act", x.count(1), 2);
        due("again", x.drops(0), 0);
        due("no act", x.count(1), 2);
        due("undone", x.undo(), 1);
        dueText("there again", textIn(x, 0), "grid 1 2;");
        for (int slot : NO_SLOTS) {
            due("no slot", x.drops(slot), -2);
        }
    }

    static void promise46() {
        PegStrings x = new PegStrings();
        due("none", x.undo(), -1);
        tells(x, 0, "grid 2 2;");
        tells(x, 1, "grid 1 3;turn 0 right;");
        x.beside(0, 0, 2, 2);
        x.quarter(1);
        x.mirror(1);
        x.drops(0);
        feeds(x, "gri");
        due("slots", x.count(0), 6);
        due("drops undone", x.undo(), 5);
        due("slots", x.count(0), 7);
        due("mirror undone", x.undo(), 4);
        dueText("turned", textIn(x, 1), "grid 3 1;turn 0 below;");
        due("quarter undone", x.undo(), 3);
        dueText("as told", textIn(x, 1), "grid 1 3;turn 0 right;");
        due("beside undone", x.undo(), 2);
        due("slots", x.count(0), 3);
        due("told undone", x.undo(), 1);
        due("told undone", x.undo(), 0);
        due("none", x.undo(), -1);
        due("the tape stays", x.count(2), 3);
        due("what was told stays", x.count(3), 22);
        // Each act can be undone; of many the latest ten.
        tells(x, 0, "grid 2 2;");
        for (int i = 0; i < 25; i++) {
            x.sets(0, i % 4, i / 4 % 4 == 3 ? 0 : i / 4 % 4 + 1);
            due("acts", x.count(1), Math.min(10, i + 2));
        }
        dueText("behind 25", textIn(x, 0), "grid 2 2;wall 0 below,1 below,2 right;gap 0 right;");
        x.under(0);
        due("under without crosses", x.count(1), 10);
        for (int i = 9; i >= 0; i--) {
            due("undo", x.undo(), i);
        }
        dueText("behind 15", textIn(x, 0), "grid 2 2;gap 2 right;");
        due("none", x.undo(), -1);
        x.oneLine(0);
        x.eases(0);
        x.all(0, 0, 1);
        x.under(0);
        int acts = x.count(1);
        for (int i = acts - 1; i >= 0; i--) {
            due("undo", x.undo(), i);
        }
        dueText("as it was", textIn(x, 0), "grid 2 2;gap 2 right;");
    }

    static void promise47() {
        PegStrings x = grid("grid 4 4;gap 14 right,11 below;wall 0 below,10 right;turn 9 right;wall 0 right;");
        String want = "grid 4 4;turn 9 right;wall 0 right,0 below,10 right;gap 11 below,14 right;";
        due("bytes", x.tell(0, 0), want.length());
        dueText("text", out(x), want);
        due("no act", x.count(1), 1);
        tells(x, 1, "grid 1 2;");
        due("no lines", x.tell(1, 0), 9);
        dueText("text", out(x), "grid 1 2;");
        due("paint", x.tell(1, 1), 10);
        dueText("paint", out(x), "1001\n0110\n");
        tells(x, 1, "grid 2 1;");
        due("paint", x.tell(1, 1), 12);
        // The walk: 0, 1, 7, 6, 5, 4, 2, 3.
        dueText("paint", out(x), "10\n01\n01\n10\n");
        tells(x, 2, "grid 4 4;wall 0 right;");
        due("paint", x.tell(2, 1), 72);
        x.all(2, 0, 1);
        x.all(2, 2, 3);
        int all = x.tell(2, 0);
        String text = out(x);
        due("all edges", all, text.length());
        due("it can be told again", tells(x, 1, text), x.look(2, 7));
        due("as it was", x.alike(1, 2), 1);
        for (int bad : new int[] {-1, 2, 3, MIN, MAX}) {
            due("no such what", x.tell(0, bad), -2);
        }
        for (int slot : NO_SLOTS) {
            due("no slot", x.tell(slot, 0), -2);
        }
        x.drops(1);
        due("nothing there", x.tell(1, 0), -2);
    }

    static void promise48() {
        PegStrings x = new PegStrings();
        due("ahead of any", x.octet(0), -1);
        tells(x, 0, "grid 1 2;");
        due("not told yet", x.octet(0), -1);
        x.tell(0, 0);
        due("g", x.octet(0), 'g');
        due(";", x.octet(8), ';');
        for (int i : new int[] {-1, 9, MIN, MAX}) {
            due("octet(" + i + ")", x.octet(i), -1);
        }
        due("refused", x.tell(1, 1), -2);
        due("refused", x.tell(0, 2), -2);
        x.drops(0);
        x.undo();
        x.undo();
        dueText("whatever came since", out(x), "grid 1 2;");
        tells(x, 0, "grid 1 1;");
        x.tell(0, 1);
        dueText("the last", out(x), "10\n01\n");
    }
}

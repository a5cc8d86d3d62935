/** What the tests of promises and of sentences share: checks that are counted, texts fed and read. */
abstract class Checks {
    static final int MIN = Integer.MIN_VALUE;
    static final int MAX = Integer.MAX_VALUE;
    static final int[] NO_SLOTS = {-1, 3, MIN, MAX};
    /** Numbers that are no slot, and slots 1 and 2, which have nothing where only slot 0 was told. */
    static final int[] NO_GRIDS = {-1, 3, MIN, MAX, 1, 2};

    static int wrong = 0;
    static int checked = 0;
    /** What is looked at now. */
    static String label = "";

    /** A call of an object with a number that the document refuses. */
    interface Call {
        long of(PegStrings x, int number);
    }

    static void due(String what, long got, long want) {
        checked++;
        if (got != want) {
            wrong++;
            System.out.println(label + ": " + what + " answered " + got + ", due is " + want);
        }
    }

    static void dueText(String what, String got, String want) {
        checked++;
        if (!got.equals(want)) {
            wrong++;
            System.out.println(label + ": " + what + " told '" + got + "', due is '" + want + "'");
        }
    }

    /** Says how many checks there were, and ends with 1 if one went wrong. */
    static void ends() {
        System.out.println(checked + " checks, " + wrong + " wrong");
        if (wrong != 0) {
            System.exit(1);
        }
    }

    static void feeds(PegStrings x, String text) {
        x.end(0);
        for (int i = 0; i < text.length(); i += 20) {
            int[] words = new int[5];
            for (int j = 0; j < 20; j++) {
                int sign = i + j < text.length() ? text.charAt(i + j) : 0;
                words[j / 4] = words[j / 4] << 8 | sign;
            }
            x.feed(words[0], words[1], words[2], words[3], words[4]);
        }
        due("end", x.end(text.length()), text.length());
    }

    static int tells(PegStrings x, int slot, String text) {
        feeds(x, text);
        return x.told(slot);
    }

    /** A new object with a grid in slot 0. */
    static PegStrings grid(String text) {
        PegStrings x = new PegStrings();
        if (tells(x, 0, text) < 1) {
            throw new IllegalStateException("not a good text: " + text);
        }
        return x;
    }

    static String out(PegStrings x) {
        StringBuilder text = new StringBuilder();
        int sign = x.octet(0);
        // No text is so long: a class that never comes to the end must not hold up the tests.
        while (sign != PegStrings.NONE && text.length() < 1000) {
            text.append((char) sign);
            sign = x.octet(text.length());
        }
        return text.toString();
    }

    /** How many ways there are to undo the crosses of slot 0, which has at most twelve of them. */
    static int ways(PegStrings x) {
        int crosses = x.look(0, 3);
        if (crosses < 0 || crosses > 12) {
            throw new IllegalStateException(label + ": crosses that are not due: " + crosses);
        }
        return 1 << crosses;
    }

    static String textIn(PegStrings x, int slot) {
        int size = x.tell(slot, 0);
        return size == -2 ? "nothing" : out(x);
    }

    static void dueFault(String text, int number, int place) {
        PegStrings x = new PegStrings();
        due("told: " + text, tells(x, 0, text), -4);
        due("fault of: " + text, x.fault(0), number);
        due("place in: " + text, x.fault(1), place);
    }

    /** A new object with a grid in slot 0, an act, a fault, bytes on the tape and in OUT. */
    static PegStrings busy(String text) {
        PegStrings x = grid(text);
        x.tell(0, 0);
        tells(x, 0, "gird");
        x.feed(1, 2, 3, 4, 5);
        return x;
    }

    /** All that can be seen of an object without changing it. */
    static String state(PegStrings x) {
        StringBuilder seen = new StringBuilder();
        for (int what = 0; what < 4; what++) {
            seen.append(x.count(what)).append(' ');
        }
        seen.append(x.fault(0)).append(' ').append(x.fault(1)).append(' ').append(out(x));
        for (int slot = 0; slot < 3; slot++) {
            seen.append(" | ").append(x.look(slot, 0)).append(' ').append(x.look(slot, 1)).append(' ');
            for (int e = 0; e < 30 && x.edge(slot, e) >= 0; e++) {
                seen.append(x.edge(slot, e));
            }
        }
        return seen.toString();
    }

    /** Each of some numbers is refused with one answer, and leaves all as it was. */
    static void refuses(String text, String what, long want, Call call, int... numbers) {
        for (int number : numbers) {
            PegStrings x = busy(text);
            String before = state(x);
            due(what + " " + number, call.of(x, number), want);
            dueText("nothing changes by " + what + " " + number, state(x), before);
        }
    }
}

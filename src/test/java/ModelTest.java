import java.lang.reflect.Method;
import java.nio.ByteBuffer;
import java.nio.charset.StandardCharsets;
import java.util.ArrayList;
import java.util.Arrays;
import java.util.List;
import java.util.Random;

/** Random runs of calls, each answer compared with that of PegStringsModel. */
public final class ModelTest {
    private static final int RUNS = 700;
    /** A text told makes some thirty calls: so no run has more than the 512 that the document promises. */
    private static final int CALLS = 480;

    /** Each call with the sorts of its arguments; those named more than once come more often. */
    private static final String[] CALLS_OF = {
        "end size", "fault what", "count what", "look slot what", "edge slot edge", "name slot edge bit",
        "edgeOf slot cell bit", "strand slot cell corner", "place slot cell corner", "walk slot strand index",
        "length slot strand", "meets slot strand strand", "over slot strand strand", "sign slot edge",
        "twist slot strand", "link slot strand strand", "alternates slot strand", "passed slot strand index",
        "interlaced slot edge edge", "interlaced slot edge edge", "visits slot strand", "winds slot strand cell",
        "winds slot strand cell", "paint slot cell corner", "painted slot bit corner", "loops slot set",
        "settings slot corner", "bracket slot power", "bracket slot power", "smooth slot power", "smooth slot power",
        "trees slot", "colours slot prime", "colours slot prime", "needs slot", "oneLine slot", "eases slot",
        "sets slot edge corner", "sets slot edge corner", "all slot corner corner", "under slot", "quarter slot",
        "mirror slot", "beside slot slot corner slot", "alike slot slot", "same slot corner", "plain span span",
        "drops slot", "undo", "tell slot bit", "octet index", "feed wild wild wild wild wild",
    };

    private static final String[] WORDS = {
        "grid", "turn", "wall", "gap", "right", "below", ";", ",", "0", "1", "2", "3", "4", "5", "7", "15", "16", " ",
        "\n", "\t", "left", "grids", "00", "07", "99999999999999999999", "-1", "\u00ff", "\0", ".", "Gap",
    };

    private final Random random;
    private final PegStrings real = new PegStrings();
    private final PegStringsModel model = new PegStringsModel();
    private final List<String> said = new ArrayList<>();
    private static int compared = 0;

    private ModelTest(long seed) {
        random = new Random(seed);
    }

    public static void main(String[] args) throws Exception {
        for (int run = 0; run < RUNS; run++) {
            ModelTest test = new ModelTest(run);
            if (!test.runs()) {
                System.out.println("run " + run + " differs:");
                test.said.forEach(System.out::println);
                System.exit(1);
            }
        }
        System.out.println(compared + " answers are those of the model");
    }

    private boolean runs() throws Exception {
        while (said.size() < CALLS) {
            if (!(random.nextInt(8) == 0 ? tellsText() : calls(CALLS_OF[random.nextInt(CALLS_OF.length)]))) {
                return false;
            }
        }
        return true;
    }

    private boolean calls(String spec) throws Exception {
        String[] parts = spec.split(" ");
        Object[] args = new Object[parts.length - 1];
        for (int i = 0; i < args.length; i++) {
            args[i] = argument(parts[i + 1]);
        }
        return call(parts[0], args);
    }

    private boolean call(String name, Object... args) throws Exception {
        long got = answer(PegStrings.class, real, name, args);
        long due = answer(PegStringsModel.class, model, name, args);
        said.add(name + Arrays.toString(args) + " answered " + got + ", due is " + due);
        if (due != PegStringsModel.UNKNOWN) {
            compared++;
            return got == due;
        }
        return true;
    }

    private static long answer(Class<?> kind, Object object, String name, Object[] args) throws Exception {
        for (Method method : kind.getDeclaredMethods()) {
            if (method.getName().equals(name) && method.getParameterCount() == args.length
                    && !java.lang.reflect.Modifier.isStatic(method.getModifiers())) {
                return ((Number) method.invoke(object, args)).longValue();
            }
        }
        throw new IllegalStateException("no such call: " + name);
    }

    private Object argument(String sort) {
        int wild = random.nextInt(60);
        if (wild == 0) {
            int[] edges = {-1, -2, Integer.MIN_VALUE, Integer.MAX_VALUE, 100, 3, 4, 5, 16, 24, 64};
            int edge = edges[random.nextInt(edges.length)];
            return sort.equals("set") ? (Object) (long) edge : (Object) edge;
        }
        return switch (sort) {
            case "slot" -> random.nextInt(10) == 0 ? random.nextInt(5) - 1 : random.nextInt(3);
            case "what" -> random.nextInt(11) - 1;
            case "bit" -> random.nextInt(12) == 0 ? random.nextInt(4) - 1 : random.nextInt(2);
            case "corner" -> random.nextInt(12) == 0 ? random.nextInt(7) - 1 : random.nextInt(4);
            case "cell" -> random.nextInt(random.nextInt(16) + 1);
            case "edge" -> random.nextInt(random.nextInt(25) + 1);
            case "strand" -> random.nextInt(random.nextInt(5) + 1);
            case "index" -> random.nextInt(30) - 1;
            case "set" -> random.nextLong() & ((1L << random.nextInt(14)) - 1);
            case "power" -> random.nextInt(20) == 0 ? random.nextInt(220) - 110 : random.nextInt(31) - 15;
            case "prime" -> new int[] {2, 3, 5, 7, 11, 13, 4, 1, 17}[random.nextInt(9)];
            case "span" -> random.nextInt(40);
            case "size" -> random.nextInt(60) - 1;
            default -> random.nextInt();
        };
    }

    /** Feeds a text, as a rule a good one, and has it told. */
    private boolean tellsText() throws Exception {
        if (!call("end", 0)) {
            return false;
        }
        byte[] bytes = text().getBytes(StandardCharsets.ISO_8859_1);
        for (int i = 0; i < bytes.length; i += 20) {
            ByteBuffer twenty = ByteBuffer.wrap(Arrays.copyOf(Arrays.copyOfRange(bytes, i, bytes.length), 20));
            if (!call("feed", twenty.getInt(), twenty.getInt(), twenty.getInt(), twenty.getInt(), twenty.getInt())) {
                return false;
            }
        }
        return call("end", bytes.length) && call("told", random.nextInt(12) == 0 ? 3 : random.nextInt(3))
                && call("fault", 0) && call("fault", 1);
    }

    private String text() {
        int rows = random.nextInt(4) + 1;
        int columns = random.nextInt(4) + 1;
        PegStringsModel.Board board = PegStringsModel.Board.plain(rows, columns);
        int plainness = random.nextInt(5);
        board.kinds().replaceAll((point, kind) -> Math.max(0, random.nextInt(4 + plainness) - plainness));
        String text = PegStringsModel.textOf(board);
        if (random.nextInt(3) == 0) {
            text = text.replace(";", random.nextBoolean() ? " ;\n" : "; ").replace(",", " , ");
        }
        for (int i = random.nextInt(3); i > 0 && random.nextInt(2) == 0; i--) {
            int from = random.nextInt(text.length() + 1);
            int to = Math.min(text.length(), from + random.nextInt(3));
            text = text.substring(0, from) + WORDS[random.nextInt(WORDS.length)] + text.substring(to);
        }
        return text.length() > 400 ? text.substring(0, 400) : text;
    }
}

import java.util.ArrayList;
import java.util.List;
import java.util.function.Consumer;
import java.util.function.ToIntFunction;

/**
 * All that later calls show of an object. Each question goes to an object that was made for it and some others,
 * so that none is used for more than the 512 calls that the document promises.
 */
final class Shown {
    private static final int QUESTIONS_OF_AN_OBJECT = 380;

    private static final List<ToIntFunction<OxbowReaches>> QUESTIONS = new ArrayList<>();
    private static final List<String> NAMES = new ArrayList<>();

    static {
        for (int what = 0; what <= 17; what++) {
            int asked = what;
            add("count(" + what + ")", x -> x.count(asked));
        }
        addCells();
        addRows();
        for (int year = 0; year <= 30; year++) {
            int asked = year;
            add("isFlood(" + year + ")", x -> x.isFlood(asked));
        }
        add("isFlood(999)", x -> x.isFlood(999));
        for (int what = 0; what <= 3; what++) {
            int asked = what;
            add("ifPassed(1, " + what + ")", x -> x.ifPassed(1, asked));
            add("ifPassed(9, " + what + ")", x -> x.ifPassed(9, asked));
        }
        add("nextCut(0)", x -> x.nextCut(0));
        add("nextCut(1)", x -> x.nextCut(1));
        add("taken(5, 9)", x -> x.taken(5, 9));
        add("taken(9, 6)", x -> x.taken(9, 6));
        add("fault()", OxbowReaches::fault);
    }

    private Shown() { }

    private static void add(String name, ToIntFunction<OxbowReaches> question) {
        NAMES.add(name);
        QUESTIONS.add(question);
    }

    private static void addCells() {
        for (int what = 0; what <= 3; what++) {
            for (int y = 0; y < 12; y++) {
                for (int x = 0; x < 20; x++) {
                    int askedX = x;
                    int askedY = y;
                    int asked = what;
                    add("cell(" + x + ", " + y + ", " + what + ")", r -> r.cell(askedX, askedY, asked));
                }
            }
        }
    }

    /**
     * The course is shown by its cells, too, but for the ways; of bends, necks and oxbows the first twelve are
     * asked.
     */
    private static void addRows() {
        for (int number = 0; number <= 12; number++) {
            int n = number;
            for (int what = 0; what <= 5; what++) {
                int asked = what;
                add("bend(" + n + ", " + what + ")", x -> x.bend(n, asked));
                add("oxbow(" + n + ", " + what + ")", x -> x.oxbow(n, asked));
                add("neck(" + n + ", " + what + ")", x -> x.neck(n, asked));
            }
            add("course(" + n + ", 2)", x -> x.course(n, 2));
        }
    }

    /** The answers to all questions after these calls on a new object. */
    static int[] after(Consumer<OxbowReaches> calls) {
        int[] answers = new int[QUESTIONS.size()];
        OxbowReaches x = null;
        for (int k = 0; k < answers.length; k++) {
            if (k % QUESTIONS_OF_AN_OBJECT == 0) {
                x = new OxbowReaches();
                calls.accept(x);
            }
            answers[k] = QUESTIONS.get(k).applyAsInt(x);
        }
        return answers;
    }

    static String name(int question) {
        return NAMES.get(question);
    }
}

import java.util.ArrayList;
import java.util.List;
import java.util.function.Consumer;
import java.util.function.ToIntFunction;

/**
 * A refused call, and one that only asks, changes nothing that a later call shows: neither the river nor the pad,
 * the slots or the history. For this the same calls are made on two objects, on one of them with the call between,
 * and all that both show is held against each other, also after undo, restore, read and a year that passes.
 */
public final class NothingChangesTest extends Checks {
    /** A river with all that can be: an oxbow, dikes, eight flood years, a full history, a slot, and a right pad. */
    private static final Consumer<OxbowReaches> RICH = x -> {
        readText(x, LOOP);
        x.set(HARD, 30);
        x.set(NECK, 9);
        x.dike(9, 6, true);
        x.dike(3, 3, true);
        x.save(1);
        for (int k = 0; k < 8; k++) {
            x.flood(2 * k + 3, true);
        }
        x.pass(2);
        x.cut(2);
        x.dike(5, 8, true);
        x.pass(1);
        putText(x, HILL);
    };
    private static final Consumer<OxbowReaches> NEW = x -> { };
    private static final Consumer<OxbowReaches> LAST_YEAR = x -> {
        readText(x, HILL);
        x.dike(6, 9, true);
        passToTheLastYear(x);
        x.dike(6, 9, false);
        x.flood(999, true);
        x.save(0);
    };

    private static final List<Consumer<OxbowReaches>> LATER = List.of(
        x -> { },
        OxbowReaches::undo,
        x -> times(3, x::undo),
        x -> times(6, x::undo),
        x -> x.restore(0),
        x -> x.restore(1),
        OxbowReaches::read,
        x -> x.pass(1),
        x -> x.put('u'),
        x -> x.set(SILT, 9));

    private static Consumer<OxbowReaches> before = NEW;
    private static List<int[]> shownBefore = new ArrayList<>();

    public static void main(String[] args) {
        runAll(NothingChangesTest.class);
    }

    private static void times(int times, Runnable call) {
        for (int k = 0; k < times; k++) {
            call.run();
        }
    }

    /** From now on the calls are made after these. */
    private static void after(Consumer<OxbowReaches> calls) {
        before = calls;
        shownBefore = new ArrayList<>();
        for (Consumer<OxbowReaches> later : LATER) {
            shownBefore.add(Shown.after(calls.andThen(later)));
        }
    }

    private static void afterPad(String text) {
        after(RICH.andThen(x -> putText(x, text)));
    }

    /** The call answers so, and nothing changes. */
    private static void still(int want, ToIntFunction<OxbowReaches> call) {
        OxbowReaches x = new OxbowReaches();
        before.accept(x);
        due(call.applyAsInt(x), want);
        for (int k = 0; k < LATER.size(); k++) {
            int[] shown = Shown.after(before.andThen(call::applyAsInt).andThen(LATER.get(k)));
            for (int question = 0; question < shown.length; question++) {
                due(Shown.name(question) + ", later calls " + k, shown[question], shownBefore.get(k)[question]);
            }
        }
    }

    static void refusedSet() {
        sentence("A call that returns an error changes nothing.");
        after(RICH);
        still(BAD_VALUE, x -> x.set(-1, 1));
        still(BAD_VALUE, x -> x.set(4, 1));
        still(BAD_VALUE, x -> x.set(FLOW, 0));
        still(BAD_VALUE, x -> x.set(FLOW, 10));
        still(BAD_VALUE, x -> x.set(SILT, 51));
    }

    static void refusedRead() {
        sentence("A call that returns an error changes nothing.");
        afterPad("");
        still(BAD_TEXT, OxbowReaches::read);
        afterPad("3,3:r2u1");
        still(BAD_TEXT, OxbowReaches::read);
        afterPad(FULL + "l");
        still(TOO_MANY, OxbowReaches::read);
        afterPad("3,3:r9r9u");
        still(NOT_POSSIBLE, OxbowReaches::read);
        afterPad("3,3:r3uld");
        still(NOT_POSSIBLE, OxbowReaches::read);
    }

    static void refusedDike() {
        sentence("A call that returns an error changes nothing.");
        after(RICH);
        still(NO_SUCH, x -> x.dike(20, 3, true));
        still(NO_SUCH, x -> x.dike(3, -1, false));
        still(NOT_POSSIBLE, x -> x.dike(0, 5, true));
        still(NOT_POSSIBLE, x -> x.dike(0, 5, false));
        still(NOT_POSSIBLE, x -> x.dike(3, 3, true));
        still(NOT_POSSIBLE, x -> x.dike(4, 3, false));
    }

    static void refusedFlood() {
        sentence("A call that returns an error changes nothing.");
        after(RICH);
        still(BAD_VALUE, x -> x.flood(2, true));
        still(BAD_VALUE, x -> x.flood(1000, true));
        still(NOT_POSSIBLE, x -> x.flood(3, true));
        still(NOT_POSSIBLE, x -> x.flood(4, false));
        still(TOO_MANY, x -> x.flood(4, true));
    }

    static void refusedCutAndPass() {
        sentence("A call that returns an error changes nothing.");
        after(RICH);
        still(NO_SUCH, x -> x.cut(-1));
        still(NO_SUCH, x -> x.cut(2));
        still(BAD_VALUE, x -> x.pass(0));
        still(BAD_VALUE, x -> x.pass(51));
        after(LAST_YEAR);
        still(TOO_MANY, x -> x.pass(1));
        still(TOO_MANY, x -> x.pass(50));
        still(BAD_VALUE, x -> x.flood(998, true));
    }

    static void refusedPut() {
        sentence("A call that returns an error changes nothing.");
        after(RICH);
        still(BAD_VALUE, x -> x.put(0));
        still(BAD_VALUE, x -> x.put(packed("u u")));
        still(BAD_VALUE, x -> x.put(1L << 40 | 'u'));
        afterPad("10,10:" + "u".repeat(57));
        still(TOO_MANY, x -> x.put(packed("ul")));
        still(TOO_MANY, x -> x.put(packed("ulululul")));
    }

    static void refusedUndoSaveAndRestore() {
        sentence("A call that returns an error changes nothing.");
        after(NEW);
        still(NOT_POSSIBLE, OxbowReaches::undo);
        still(NOT_POSSIBLE, x -> x.restore(1));
        after(RICH);
        still(BAD_VALUE, x -> x.save(-1));
        still(BAD_VALUE, x -> x.save(2));
        still(BAD_VALUE, x -> x.restore(-1));
        still(BAD_VALUE, x -> x.restore(2));
        still(NOT_POSSIBLE, x -> x.restore(0));
    }

    static void refusedQuestions() {
        sentence("A call that returns an error changes nothing.");
        after(RICH);
        still(NO_SUCH, x -> x.cell(20, 0, 0));
        still(BAD_VALUE, x -> x.cell(0, 0, 4));
        still(NO_SUCH, x -> x.course(150, 0));
        still(BAD_VALUE, x -> x.course(0, 3));
        still(NO_SUCH, x -> x.bend(9, 0));
        still(BAD_VALUE, x -> x.bend(0, 6));
        still(NO_SUCH, x -> x.neck(9, 0));
        still(BAD_VALUE, x -> x.neck(0, 3));
        still(NO_SUCH, x -> x.oxbow(1, 0));
        still(BAD_VALUE, x -> x.oxbow(0, 4));
        still(BAD_VALUE, x -> x.count(18));
        still(BAD_VALUE, x -> x.isFlood(1000));
        still(BAD_VALUE, x -> x.ifPassed(51, 0));
        still(BAD_VALUE, x -> x.nextCut(2));
        still(NO_SUCH, x -> x.taken(20, 0));
    }

    static void questionsChangeNothing() {
        sentence("---- what there is; nothing changes.");
        after(RICH);
        still(9, x -> x.cell(6, 6, 0));
        still(RIGHT, x -> x.course(7, 2));
        still(1, x -> x.bend(0, 3));
        still(3, x -> x.neck(0, 2));
        still(2, x -> x.oxbow(0, 0));
        still(3, x -> x.count(5));
        still(1, x -> x.isFlood(17));
    }

    static void whatIfChangesNothing() {
        sentence("---- what if; nothing changes");
        after(RICH);
        still(12, x -> x.ifPassed(50, 2));
        still(0, x -> x.nextCut(0));
        still(4, x -> x.nextCut(1));
        still(NONE, x -> x.taken(6, 8));
        after(LAST_YEAR);
        still(3, x -> x.ifPassed(50, 1));
        still(NONE, x -> x.nextCut(0));
        still(1, x -> x.taken(5, 9));
    }

    static void faultChangesNothing() {
        sentence("Returns the fault of the pad, NONE if there is none.");
        after(RICH);
        still(NONE, OxbowReaches::fault);
        afterPad("3,3:r2u1");
        still(7, OxbowReaches::fault);
    }
}

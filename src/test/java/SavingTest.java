/** The sentences of promises 21 to 23 that name a boundary case, a test for each. */
public final class SavingTest extends Checks {
    public static void main(String[] args) {
        runAll(SavingTest.class);
    }

    // ---- promise 21

    static void undoOfNothing() {
        sentence("Returns how many changes can be undone then; NOT_POSSIBLE if there is none.");
        OxbowReaches x = new OxbowReaches();
        dueEach(NOT_POSSIBLE, x.undo(), x.undo());
        due(x.count(17), 0);
        x.set(FLOW, 3);
        due(x.undo(), 0);
        dueEach(NOT_POSSIBLE, x.undo(), x.undo());
        due(x.set(FLOW, 4), 2);
        due(x.count(17), 1);
    }

    static void aHistoryOf6States() {
        sentence("A history of at most 6 states is kept");
        OxbowReaches x = new OxbowReaches();
        for (int k = 1; k <= 9; k++) {
            x.set(HARD, k);
            due(x.count(17), Math.min(k, 6));
        }
        for (int k = 5; k >= 0; k--) {
            due(x.undo(), k);
            due(x.count(13), k + 3);
        }
        due(x.undo(), NOT_POSSIBLE);
        due(x.count(13), 3);
    }

    static void theOldestOneIsDropped() {
        sentence("when one more is recorded, the oldest one is dropped.");
        // However many there were: the states of six changes stay, in their order, with undo between them, too.
        for (int changes = 5; changes <= 20; changes++) {
            OxbowReaches x = new OxbowReaches();
            for (int k = 1; k <= changes; k++) {
                x.set(HARD, k);
            }
            due(x.undo(), Math.min(changes, 6) - 1);
            due(x.undo(), Math.min(changes, 6) - 2);
            due(x.count(13), changes - 2);
            for (int k = 31; k <= 33; k++) {
                x.set(HARD, k);
            }
            int[] wanted = {32, 31, changes - 2, changes - 3, changes - 4, changes == 5 ? 6 : changes - 5};
            due(x.count(17), 6);
            for (int k = 0; k < 6; k++) {
                due(x.undo(), 5 - k);
                due(x.count(13), wanted[k]);
            }
            due(x.undo(), NOT_POSSIBLE);
        }
    }

    static void eachChangeIsRecorded() {
        sentence("each method that is a change, and returns no error, records the state before it "
            + "(also if nothing is different then)");
        OxbowReaches x = new OxbowReaches();
        x.set(FLOW, 2);
        due(x.count(17), 1);
        due(x.undo(), 0);
        readText(x, LOOP);
        due(x.count(17), 1);
        readText(x, LOOP);
        due(x.count(17), 2);
        x.dike(0, 0, true);
        due(x.count(17), 3);
        x.flood(9, true);
        due(x.count(17), 4);
        x.cut(0);
        due(x.count(17), 5);
        x.pass(1);
        due(x.count(17), 6);
        x = new OxbowReaches();
        x.save(0);
        due(x.count(17), 0);
        x.restore(0);
        due(x.count(17), 1);
        x.restore(0);
        due(x.count(17), 2);
        due(x.undo(), 1);
        due(x.undo(), 0);
    }

    static void whatIsNoChangeIsNotRecorded() {
        sentence("each method that is a change, and returns no error, records the state before it");
        OxbowReaches x = river(LOOP);
        x.put('x');
        x.wipe();
        x.fault();
        x.save(0);
        x.save(1);
        x.cell(0, 0, 0);
        x.course(0, 0);
        x.bend(0, 0);
        x.neck(0, 0);
        x.oxbow(0, 0);
        x.count(0);
        x.isFlood(0);
        x.ifPassed(50, 0);
        x.nextCut(0);
        x.taken(5, 9);
        due(x.count(17), 1);
        x.undo();
        due(x.count(17), 0);
        // Nor is an error.
        x.set(FLOW, 10);
        x.read();
        x.dike(0, 6, true);
        x.flood(0, false);
        x.cut(0);
        x.pass(51);
        x.restore(2);
        due(x.count(17), 0);
    }

    static void everythingIsAsItWasBefore() {
        sentence("Undoes the latest change: everything except the pad, the slots and the history is "
            + "as it was before it.");
        OxbowReaches x = stillRiver(LOOP);
        x.dike(0, 0, true);
        x.flood(0, true);
        x.flood(7, true);
        x.dike(5, 9, true);
        x.cut(2);
        x.pass(1);
        x.undo();
        x.flood(0, false);
        x.dike(5, 8, true);
        x.pass(2);
        // Two necks of an age of 2, an oxbow of two years, two dikes more than the first one, a flood year that comes.
        dueCounts(x, 0, 16, 1, 1, 2, 1, 2, 1, 3, 1, 0);
        x.put('x');
        x.save(0);
        String text = HILL;
        readText(x, text);
        x.set(FLOW, 9);
        putText(x, "19,11");
        due(x.undo(), 5);
        due(x.count(12), 2);
        due(x.undo(), 4);
        dueCounts(x, 0, 16, 1, 1, 2, 1, 2, 1, 3, 1, 0);
        dueCounts(x, 12, 2, 60, 20, 5, 5, 4);
        dueNeck(x, 0, 5, 10, 2);
        dueNeck(x, 1, 6, 9, 2);
        dueOxbow(x, 0, 2, 2, 5, 8);
        dueEach(1, x.cell(0, 0, 2), x.cell(5, 8, 2), x.cell(5, 9, 2), x.isFlood(7));
        dueEach(0, x.isFlood(0), x.cell(6, 8, 3));
        // The pad is not undone, nor what was saved.
        due(x.fault(), 5);
        x.set(FLOW, 5);
        x.save(1);
        x.undo();
        due(x.count(12), 2);
        due(x.restore(1), 16);
        due(x.count(12), 5);
        due(x.undo(), 4);
        due(x.restore(0), 16);
    }

    static void undoBringsBackWearAndNumbersOfGrowing() {
        sentence("everything except the pad, the slots and the history is as it was before it.");
        OxbowReaches x = river(HILL);
        x.pass(2);
        x.pass(3);
        dueCounts(x, 9, 1);
        due(x.count(11), 16);
        due(x.undo(), 2);
        dueCounts(x, 9, 0);
        due(x.count(11), 16);
        dueEach(4, x.cell(5, 9, 1), x.cell(8, 9, 1));
        dueEach(0, x.cell(5, 10, 1));
        dueCounts(x, 5, 2);
        dueCourse(x, 8, 5, 8, 6, 8, 7, 8, 8, 8, 8, 7);
        due(x.cell(6, 8, 0), 9);
        due(x.cell(6, 9, 0), NONE);
        // What comes is as it would have been.
        due(x.taken(5, 9), 0);
        x.pass(1);
        dueCounts(x, 9, 1);
    }

    // ---- promise 22

    static void saveInASlotOf0Or1() {
        sentence("- `slot`: 0 or 1 Returns how many cells the course has; BAD_VALUE if there is no such slot.");
        OxbowReaches x = river(LOOP);
        dueEach(BAD_VALUE, x.save(-1), x.save(2), x.save(MIN), x.save(MAX));
        dueEach(NOT_POSSIBLE, x.restore(0), x.restore(1));
        due(x.save(1), 18);
        due(x.restore(0), NOT_POSSIBLE);
        due(x.restore(1), 18);
        x.cut(0);
        due(x.save(0), 12);
        due(x.restore(1), 18);
        due(x.restore(0), 12);
    }

    static void saveOverwrites() {
        sentence("Saves everything except the pad, the history and the slots in a slot, "
            + "and overwrites what was saved there.");
        OxbowReaches x = river(LOOP);
        x.save(0);
        x.save(1);
        x.cut(2);
        due(x.save(0), 16);
        x.cut(0);
        due(x.restore(0), 16);
        due(x.restore(1), 18);
        due(x.restore(0), 16);
        // It is no change, and takes neither the pad nor the history nor the other slot.
        x = river(LOOP);
        x.put('x');
        x.save(0);
        dueCounts(x, 16, 1, 1);
        x.set(FLOW, 3);
        x.put('y');
        x.restore(0);
        dueCounts(x, 16, 2, 3);
        due(x.count(12), 2);
        due(x.restore(1), NOT_POSSIBLE);
        due(x.undo(), 2);
        due(x.count(12), 3);
    }

    static void saveHasEverything() {
        sentence("Saves everything except the pad, the history and the slots in a slot");
        OxbowReaches x = river(HILL);
        x.set(FLOW, 3);
        x.set(HARD, 7);
        x.set(NECK, 9);
        x.set(SILT, 11);
        x.dike(19, 11, true);
        x.flood(2, true);
        x.pass(4);
        x.save(1);
        int[] wanted = new int[16];
        for (int what = 0; what < 16; what++) {
            wanted[what] = x.count(what);
        }
        dueCounts(x, 5, 4, 1, 1, 0, 1);
        due(x.count(11), 4 * 3);
        x.set(FLOW, 1);
        x.set(HARD, 1);
        x.set(NECK, 1);
        x.set(SILT, 1);
        x.dike(19, 11, false);
        x.flood(9, true);
        readText(x, LOOP);
        x.pass(5);
        due(x.restore(1), 22);
        dueCounts(x, 0, wanted);
        due(x.count(11), 4 * 3);
        dueEach(1, x.cell(19, 11, 2), x.isFlood(2));
        dueEach(0, x.isFlood(9));
        dueEach(3, x.cell(5, 10, 1), x.cell(8, 10, 1));
    }

    // ---- promise 23

    static void restoreOfASlotThatKeepsIt() {
        sentence("Restores what was saved last in a slot, which keeps it.");
        OxbowReaches x = river(LOOP);
        x.set(SILT, 50);
        x.save(0);
        for (int k = 0; k < 3; k++) {
            x.pass(3);
            due(x.count(0), 12);
            due(x.restore(0), 18);
            dueCounts(x, 3, 3, 0, 0);
            dueNeck(x, 0, 5, 12, 0);
            due(x.count(11), 0);
        }
    }

    static void restoreErrorsInTheirOrder() {
        sentence("Returns how many cells the course has then; BAD_VALUE if there is no such slot; "
            + "NOT_POSSIBLE if nothing was saved in it.");
        OxbowReaches x = river(LOOP);
        dueEach(BAD_VALUE, x.restore(-1), x.restore(2), x.restore(MIN), x.restore(MAX));
        dueEach(NOT_POSSIBLE, x.restore(0), x.restore(1));
        x.save(0);
        dueEach(BAD_VALUE, x.restore(-1), x.restore(2));
        dueEach(NOT_POSSIBLE, x.restore(1));
        due(x.restore(0), 18);
        // Neither read nor undo empties a slot.
        readText(x, HILL);
        due(x.restore(0), 18);
        for (int k = 0; k < 4; k++) {
            x.undo();
        }
        due(x.undo(), NOT_POSSIBLE);
        due(x.restore(0), 18);
        due(x.restore(1), NOT_POSSIBLE);
    }

    static void restoreIsAChange() {
        sentence("Restores what was saved last in a slot, which keeps it. This is a change.");
        OxbowReaches x = river(LOOP);
        x.save(0);
        x.cut(0);
        x.put('x');
        due(x.restore(0), 18);
        dueCounts(x, 16, 1, 3);
        due(x.undo(), 2);
        dueCounts(x, 0, 12);
        due(x.undo(), 1);
        dueCounts(x, 0, 18);
        due(x.undo(), 0);
        dueCounts(x, 0, 20);
        due(x.restore(0), 18);
        due(x.count(17), 1);
    }
}

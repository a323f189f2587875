/** The sentences of promises 1 to 7 that name a boundary case, a test for each. */
public final class ChangesTest extends Checks {
    public static void main(String[] args) {
        runAll(ChangesTest.class);
    }

    // ---- promise 1

    static void aNewObjectHasAStraightRiver() {
        sentence("Creates a land with a straight river.");
        OxbowReaches x = new OxbowReaches();
        dueCounts(x, 0, 20, 0, 0, 0, 0, 0, 0, 0, 0, 0, 1000, 0, 2, 6, 3, 5, 0, 0);
        due(x.fault(), 0);
        dueEach(NOT_POSSIBLE, x.undo(), x.restore(0), x.restore(1));
        dueEach(0, x.isFlood(0), x.isFlood(999), x.wipe());
        // What is done with one object is not seen in another one.
        OxbowReaches other = river(LOOP);
        other.set(FLOW, 9);
        other.dike(0, 0, true);
        other.flood(0, true);
        other.pass(1);
        other.save(0);
        other.put('r');
        dueCounts(x, 0, 20, 0, 0, 0, 0, 0, 0, 0, 0, 0, 1000, 0, 2, 6, 3, 5, 0, 0);
        due(x.restore(0), NOT_POSSIBLE);
        dueCounts(new OxbowReaches(), 0, 20, 0, 0, 0, 0, 0, 0, 0, 0, 0, 1000, 0, 2, 6, 3, 5, 0, 0);
    }

    static void anObjectIsUsedFor512Calls() {
        sentence("An object is used for at most 512 calls after it has been made");
        OxbowReaches x = new OxbowReaches();
        for (int call = 1; call <= 509; call++) {
            due(x.set(FLOW, call % 9 + 1), call == 1 ? 2 : (call - 1) % 9 + 1);
        }
        due(x.count(17), 6);
        due(x.undo(), 5);
        due(x.count(12), 508 % 9 + 1);
    }

    // ---- promise 2

    static void setReturnsThePreviousValue() {
        sentence("Returns the previous value; BAD_VALUE if there is no such setting, or the value "
            + "is out of its range.");
        OxbowReaches x = new OxbowReaches();
        due(x.set(FLOW, 9), 2);
        due(x.set(FLOW, 1), 9);
        due(x.set(FLOW, 1), 1);
        due(x.set(FLOW, 2), 1);
        due(x.set(HARD, 60), 6);
        due(x.set(NECK, 20), 3);
        due(x.set(SILT, 50), 5);
        dueCounts(x, 12, 2, 60, 20, 50);
    }

    static void setOfNoSuchSetting() {
        sentence("BAD_VALUE if there is no such setting, or the value is out of its range.");
        OxbowReaches x = new OxbowReaches();
        dueEach(BAD_VALUE, x.set(-1, 1), x.set(4, 1), x.set(MIN, 1), x.set(MAX, 1), x.set(-1, 0), x.set(4, 61));
        // Each setting has its own range.
        dueEach(BAD_VALUE, x.set(FLOW, 10), x.set(FLOW, 20), x.set(NECK, 21), x.set(NECK, 50), x.set(SILT, 51));
        dueEach(BAD_VALUE, x.set(SILT, 60), x.set(HARD, 61), x.set(FLOW, 0),
            x.set(HARD, 0), x.set(NECK, 0), x.set(SILT, 0));
        dueCounts(x, 12, 2, 6, 3, 5, 0, 0);
    }

    static void setIsAChange() {
        sentence("Changes a setting. This is a change.");
        OxbowReaches x = new OxbowReaches();
        x.set(HARD, 7);
        due(x.count(17), 1);
        x.set(HARD, 7);
        due(x.count(17), 2);
        x.set(HARD, 61);
        due(x.count(17), 2);
        due(x.undo(), 1);
        due(x.count(13), 7);
        due(x.undo(), 0);
        due(x.count(13), 6);
    }

    // ---- promise 3

    static void readTakesTheCourse() {
        sentence("Takes the course of the pad, and empties the pad.");
        OxbowReaches x = new OxbowReaches();
        due(readText(x, "2,3:ru2l"), 5);
        dueCourse(x, 0, 2, 3, 3, 3, 3, 4, 3, 5, 2, 5);
        dueEach(NO_SUCH, x.course(5, 0));
        due(x.count(0), 5);
        dueEach(NONE, x.cell(0, 6, 0), x.cell(19, 6, 0), x.cell(4, 3, 0));
        due(x.count(16), 0);
        due(x.fault(), 0);
        due(x.wipe(), 0);
        due(x.read(), BAD_TEXT);
        dueCounts(x, 0, 5);
    }

    static void readSetsBackAllButTheSettings() {
        sentence("All else but the settings becomes as at first: wear, dikes, ages, oxbows, flood years, "
            + "the present year, and what is counted.");
        OxbowReaches x = river(LOOP);
        x.set(FLOW, 4);
        x.set(HARD, 8);
        x.set(NECK, 20);
        x.set(SILT, 50);
        x.dike(0, 0, true);
        x.flood(0, true);
        x.flood(1, true);
        x.flood(999, true);
        x.pass(2);
        x.flood(2, false);
        x.undo();
        readText(x, TWINS);
        x.pass(1);
        x.cut(0);
        x.dike(3, 3, true);
        x.flood(8, true);
        x.pass(1);
        dueCounts(x, 4, 1, 2, 1, 1, 1);
        due(readText(x, TWINS), 18);
        dueCounts(x, 0, 18, 3, 0, 4, 0, 0, 0, 0, 0, 0, 1888, 0, 4, 8, 20, 50, 0, 6);
        for (int k = 0; k < 4; k++) {
            due(x.neck(k, 2), 0);
        }
        dueEach(0, x.cell(3, 3, 2), x.cell(2, 8, 1), x.cell(6, 8, 1), x.isFlood(8), x.isFlood(0), x.isFlood(999));
        dueEach(NONE, x.cell(2, 6, 3), x.cell(2, 7, 3));
        due(x.oxbow(0, 0), NO_SUCH);
        due(x.flood(0, true), 1);
    }

    static void readLeavesSlotsAndHistory() {
        sentence("everything except the pad, the slots and the history is as it was before it.");
        OxbowReaches x = river(LOOP);
        x.save(1);
        x.set(FLOW, 3);
        readText(x, HILL);
        due(x.count(17), 3);
        due(x.restore(1), 18);
        due(x.undo(), 3);
        due(x.count(0), 20);
        due(x.undo(), 2);
        due(x.count(0), 18);
        due(x.count(12), 3);
    }

    static void readOfAFault() {
        sentence("Returns how many cells the course has; BAD_TEXT if the pad has a fault");
        OxbowReaches x = new OxbowReaches();
        due(x.read(), BAD_TEXT);
        String[] faulty = {"1", "1,1", "1,1:", "1,1:2", "1,1:r1", "1,1:rx", "20,1:r", "1,12:r", "01,1:r"};
        for (String text : faulty) {
            due("read of " + text, readText(x, text), BAD_TEXT);
            due("the pad stays", x.count(16), text.length());
        }
        dueCounts(x, 17, 0);
        due(readText(x, "1,1:r"), 2);
        due(readText(x, "19,11:l"), 2);
    }

    static void readOfMoreThan150Cells() {
        sentence("TOO_MANY if it would have more than 150");
        OxbowReaches x = new OxbowReaches();
        due(readText(x, FULL), 150);
        due(readText(x, FULL + "l"), TOO_MANY);
        due(x.count(16), 49);
        due(readText(x, FULL + "l9"), TOO_MANY);
        // The longest text: 29 ways with a digit of 9 each, 262 cells.
        due(readText(x, "10,10:" + "u9".repeat(29)), TOO_MANY);
        due(x.count(16), 64);
        due(x.count(0), 150);
        due(x.count(17), 1);
    }

    static void readOfWhatIsNotPossible() {
        sentence("NOT_POSSIBLE if it would leave the land, or come to a cell twice.");
        OxbowReaches x = new OxbowReaches();
        due(readText(x, "18,3:r2"), NOT_POSSIBLE);
        due(readText(x, "1,3:l2"), NOT_POSSIBLE);
        due(readText(x, "3,10:u2"), NOT_POSSIBLE);
        due(readText(x, "3,1:d2"), NOT_POSSIBLE);
        due(readText(x, "19,11:u"), NOT_POSSIBLE);
        due(readText(x, "0,0:d"), NOT_POSSIBLE);
        due(readText(x, "19,11:r"), NOT_POSSIBLE);
        due(readText(x, "0,0:l"), NOT_POSSIBLE);
        // It leaves the land, and comes back.
        due(readText(x, "18,3:r2ul2"), NOT_POSSIBLE);
        // Its first cell, its last one but one, and one between.
        due(readText(x, "5,5:ruld"), NOT_POSSIBLE);
        due(readText(x, "5,5:rl"), NOT_POSSIBLE);
        due(readText(x, "5,5:r3uld"), NOT_POSSIBLE);
        due(x.count(16), 9);
        dueCounts(x, 0, 20);
        dueCounts(x, 17, 0);
        // As near to it as can be.
        due(readText(x, "18,3:r"), 2);
        due(readText(x, "1,3:l"), 2);
        due(readText(x, "3,10:u"), 2);
        due(readText(x, "3,1:d"), 2);
        due(readText(x, "5,5:rul"), 4);
        due(readText(x, "5,5:r3ul2"), 7);
    }

    static void errorsOfReadInTheirOrder() {
        sentence("BAD_TEXT if the pad has a fault; TOO_MANY if it would have more than 150; "
            + "NOT_POSSIBLE if it would leave the land, or come to a cell twice.");
        OxbowReaches x = new OxbowReaches();
        // A fault and too many cells; a fault, and the way leaves the land.
        due(readText(x, FULL + "l1"), BAD_TEXT);
        due(readText(x, "0,0:l1"), BAD_TEXT);
        // Too many, and the way leaves the land, or comes to a cell twice.
        due(readText(x, "0,0:" + "l9".repeat(17)), TOO_MANY);
        due(readText(x, "0,0:" + "r9l9".repeat(9)), TOO_MANY);
        // 145 cells of these are not too many.
        due(readText(x, "0,0:" + "l9".repeat(16)), NOT_POSSIBLE);
        due(readText(x, "0,0:" + "r9l9".repeat(8) + "r5"), NOT_POSSIBLE);
        due(readText(x, "0,0:" + "r9l9".repeat(8) + "r6"), TOO_MANY);
    }

    static void readIsAChange() {
        sentence("and what is counted. This is a change.");
        OxbowReaches x = new OxbowReaches();
        x.dike(0, 0, true);
        readText(x, HILL);
        due(x.count(17), 2);
        due(x.undo(), 1);
        dueCounts(x, 0, 20, 0);
        due(x.count(7), 1);
        due(x.count(16), 0);
    }

    // ---- promise 4

    static void dikeReturnsHowManyThereAre() {
        sentence("Returns how many dikes there are then");
        OxbowReaches x = new OxbowReaches();
        int built = 0;
        for (int y = 0; y < 12; y++) {
            for (int k = 0; k < 20; k++) {
                if (y != 6) {
                    built++;
                    due(x.dike(k, y, true), built);
                }
            }
        }
        due(x.count(7), 220);
        due(x.dike(0, 0, false), 219);
        due(x.dike(19, 11, false), 218);
        due(x.dike(0, 0, true), 219);
        for (int k = 0; k < 20; k++) {
            dueEach(NOT_POSSIBLE, x.dike(k, 6, true), x.dike(k, 6, false));
        }
        x = new OxbowReaches();
        x.dike(3, 3, true);
        due(x.dike(3, 3, false), 0);
    }

    static void dikeOfNoSuchCell() {
        sentence("NO_SUCH if there is no such cell; NOT_POSSIBLE if it belongs to the course, or it is so already.");
        OxbowReaches x = new OxbowReaches();
        dueEach(NO_SUCH, x.dike(-1, 5, true), x.dike(20, 5, true), x.dike(5, -1, true), x.dike(5, 12, true));
        // One of the course would stand there if rows had no end, and it is no dike already.
        dueEach(NO_SUCH, x.dike(20, 5, false), x.dike(-1, 7, true), x.dike(MIN, 0, false), x.dike(0, MAX, false));
        due(x.count(7), 0);
        due(x.dike(0, 5, true), 1);
        due(x.dike(19, 5, true), 2);
        due(x.dike(5, 0, true), 3);
        due(x.dike(5, 11, true), 4);
    }

    static void dikeThatIsNotPossible() {
        sentence("NOT_POSSIBLE if it belongs to the course, or it is so already.");
        OxbowReaches x = river(LOOP);
        dueEach(NOT_POSSIBLE, x.dike(0, 5, true), x.dike(11, 5, true), x.dike(5, 8, true), x.dike(0, 5, false));
        dueEach(NOT_POSSIBLE, x.dike(0, 6, false), x.dike(12, 5, false));
        due(x.dike(0, 6, true), 1);
        dueEach(NOT_POSSIBLE, x.dike(0, 6, true));
        due(x.dike(0, 6, false), 0);
        dueEach(NOT_POSSIBLE, x.dike(0, 6, false));
        due(x.count(17), 3);
        // A cell of an oxbow belongs to the course no more.
        due(x.dike(5, 7, true), NOT_POSSIBLE);
        x.cut(1);
        due(x.dike(5, 7, true), 1);
        due(x.cell(5, 7, 3), 0);
        // Nor does a cell from which a bend has grown.
        x = river(HILL);
        x.pass(3);
        due(x.dike(5, 9, true), NOT_POSSIBLE);
        due(x.dike(6, 8, true), 1);
    }

    static void dikeIsAChange() {
        sentence("Builds a dike, or takes it away. This is a change.");
        OxbowReaches x = new OxbowReaches();
        x.dike(4, 4, true);
        due(x.count(17), 1);
        x.dike(4, 4, false);
        due(x.count(17), 2);
        due(x.undo(), 1);
        due(x.cell(4, 4, 2), 1);
        due(x.undo(), 0);
        due(x.cell(4, 4, 2), 0);
        due(x.count(7), 0);
    }

    // ---- promise 5

    static void floodOfThePresentYearTo999() {
        sentence("- `year`: the present year to 999");
        OxbowReaches x = new OxbowReaches();
        dueEach(BAD_VALUE, x.flood(-1, true), x.flood(1000, true), x.flood(MIN, true), x.flood(MAX, true));
        dueEach(BAD_VALUE, x.flood(-1, false), x.flood(1000, false));
        due(x.flood(0, true), 1);
        due(x.flood(999, true), 2);
        x.pass(50);
        dueEach(BAD_VALUE, x.flood(49, true), x.flood(0, false), x.flood(49, false));
        due(x.flood(50, true), 3);
        x = new OxbowReaches();
        passToTheLastYear(x);
        due(x.flood(998, true), BAD_VALUE);
        due(x.flood(1000, true), BAD_VALUE);
        due(x.flood(999, true), 1);
        due(x.flood(999, false), 0);
    }

    static void floodYearsThatAreOverCount() {
        sentence("Returns how many flood years there are then (those that are over count)");
        OxbowReaches x = new OxbowReaches();
        for (int k = 0; k < 7; k++) {
            x.flood(k, true);
        }
        x.pass(7);
        due(x.count(6), 7);
        due(x.flood(7, true), 8);
        due(x.flood(8, true), TOO_MANY);
        due(x.flood(7, false), 7);
        due(x.flood(9, true), 8);
        x.pass(50);
        due(x.count(6), 8);
        due(x.flood(60, true), TOO_MANY);
        due(x.isFlood(0), 1);
    }

    static void floodThatIsSoAlready() {
        sentence("NOT_POSSIBLE if it is so already");
        OxbowReaches x = new OxbowReaches();
        dueEach(NOT_POSSIBLE, x.flood(0, false), x.flood(999, false));
        due(x.flood(5, true), 1);
        dueEach(NOT_POSSIBLE, x.flood(5, true), x.flood(4, false), x.flood(6, false));
        due(x.flood(5, false), 0);
        dueEach(NOT_POSSIBLE, x.flood(5, false));
        due(x.count(17), 2);
    }

    static void floodIfThereAre8() {
        sentence("TOO_MANY if there are 8.");
        OxbowReaches x = new OxbowReaches();
        for (int k = 1; k <= 7; k++) {
            due(x.flood(10 * k, true), k);
        }
        due(x.flood(0, true), 8);
        dueEach(TOO_MANY, x.flood(1, true), x.flood(999, true), x.flood(11, true));
        due(x.count(6), 8);
        // One of them can be taken away: there are not too many then.
        due(x.flood(40, false), 7);
        due(x.isFlood(40), 0);
        dueEach(1, x.isFlood(0), x.isFlood(10), x.isFlood(30), x.isFlood(50), x.isFlood(70));
        due(x.flood(999, true), 8);
        due(x.flood(40, true), TOO_MANY);
    }

    static void errorsOfFloodInTheirOrder() {
        sentence("BAD_VALUE if year is out of range; NOT_POSSIBLE if it is so already; TOO_MANY if there are 8.");
        OxbowReaches x = new OxbowReaches();
        x.pass(1);
        for (int k = 1; k <= 8; k++) {
            x.flood(k, true);
        }
        x.pass(1);
        // Out of range, so already, and 8 of them: years that are over, and years that come.
        dueEach(BAD_VALUE, x.flood(1, true), x.flood(0, false),
            x.flood(0, true), x.flood(1000, true), x.flood(1000, false));
        dueEach(NOT_POSSIBLE, x.flood(2, true), x.flood(8, true), x.flood(9, false));
        dueEach(TOO_MANY, x.flood(9, true));
    }

    static void floodIsAChange() {
        sentence("Makes a year a flood year, or no flood year any more. This is a change.");
        OxbowReaches x = new OxbowReaches();
        x.flood(3, true);
        x.flood(4, true);
        x.flood(3, false);
        due(x.count(17), 3);
        due(x.undo(), 2);
        dueEach(1, x.isFlood(3), x.isFlood(4));
        due(x.undo(), 1);
        due(x.isFlood(4), 0);
        due(x.undo(), 0);
        due(x.count(6), 0);
    }

    // ---- promise 6

    static void cutOfNoSuchNeck() {
        sentence("Returns how many cells the course has then; NO_SUCH if there is no such neck.");
        OxbowReaches x = new OxbowReaches();
        dueEach(NO_SUCH, x.cut(0), x.cut(-1), x.cut(MAX), x.cut(MIN));
        x = river(LOOP);
        dueEach(NO_SUCH, x.cut(3), x.cut(-1), x.cut(MAX), x.cut(MIN), x.cut(150));
        due(x.count(17), 1);
        due(x.count(8), 0);
        due(x.cut(2), 16);
        dueEach(NO_SUCH, x.cut(2));
        due(x.cut(0), 12);
        dueEach(NO_SUCH, x.cut(0));
        // The last one of the longest course.
        x = river(FULL);
        due(x.cut(123), NO_SUCH);
        due(x.cut(122), 148);
        dueOxbow(x, 0, 2, 0, 19, 6);
    }

    static void cutIsAChange() {
        sentence("Cuts a neck. This is a change.");
        OxbowReaches x = river(LOOP);
        x.cut(0);
        due(x.count(17), 2);
        due(x.count(8), 1);
        due(x.count(5), 0);
        due(x.undo(), 1);
        dueCounts(x, 0, 18, 1, 0, 3, 0);
        due(x.count(8), 0);
        due(x.cell(5, 6, 3), NONE);
        due(x.cell(5, 6, 0), 6);
    }

    // ---- promise 7

    static void passOf1To50Years() {
        sentence("- `years`: 1 to 50 Returns how many necks are cut in them; BAD_VALUE if years is out of range");
        OxbowReaches x = new OxbowReaches();
        dueEach(BAD_VALUE, x.pass(0), x.pass(-1), x.pass(51), x.pass(MIN), x.pass(MAX), x.pass(256));
        dueCounts(x, 5, 0);
        due(x.pass(1), 0);
        dueCounts(x, 5, 1);
        due(x.pass(50), 0);
        dueCounts(x, 5, 51);
    }

    static void passReturnsTheCutsOfThoseYears() {
        sentence("Returns how many necks are cut in them");
        OxbowReaches x = stillRiver(TWINS);
        x.set(NECK, 2);
        x.cut(0);
        due(x.pass(1), 0);
        due(x.pass(1), 1);
        due(x.pass(1), 0);
        due(x.count(8), 2);
        x = stillRiver(TWINS);
        due(x.pass(19), 0);
        due(x.pass(50), 2);
    }

    static void passBeyondTheYear999() {
        sentence("TOO_MANY if the present year would be above 999.");
        OxbowReaches x = new OxbowReaches();
        for (int k = 0; k < 19; k++) {
            x.pass(50);
        }
        due(x.count(5), 950);
        due(x.pass(50), TOO_MANY);
        due(x.pass(49), 0);
        due(x.count(5), 999);
        dueEach(TOO_MANY, x.pass(1), x.pass(50));
        due(x.undo(), 5);
        due(x.pass(48), 0);
        due(x.pass(2), TOO_MANY);
        due(x.pass(1), 0);
        due(x.count(5), 999);
    }

    static void errorsOfPassInTheirOrder() {
        sentence("BAD_VALUE if years is out of range; TOO_MANY if the present year would be above 999.");
        OxbowReaches x = new OxbowReaches();
        passToTheLastYear(x);
        dueEach(BAD_VALUE, x.pass(51), x.pass(0), x.pass(MAX), x.pass(MIN));
        dueEach(TOO_MANY, x.pass(1));
    }

    static void passIsAChange() {
        sentence("Lets years pass. This is a change.");
        OxbowReaches x = river(LOOP);
        x.pass(3);
        due(x.count(17), 2);
        x.pass(50);
        due(x.count(17), 3);
        due(x.undo(), 2);
        dueCounts(x, 4, 1, 3);
        due(x.undo(), 1);
        dueCounts(x, 0, 18, 1, 0, 3, 0, 0);
        dueCounts(x, 8, 0, 0);
        due(x.count(11), 0);
        due(x.neck(0, 2), 0);
    }
}

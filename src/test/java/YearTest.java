/** The sentences under "A year" that name a boundary case, a test for each. */
public final class YearTest extends Checks {
    /** A bend up with the bank (3, 5) to (5, 5), and one down with the bank (7, 5) to (5, 5). */
    private static final String MEETING = "0,2:r3u2r2d2r5u6l3d2l2u2l2";
    /**
     * A river that, when its first neck is cut, has a bend, numbers 6 to 11, with two cells of the oxbow in its
     * bank.
     */
    private static final String OMEGA = "0,3:r4u2r2u3rd3r2d2r4";
    /** Two loops of which the first has a neck to each side of it that spans 3, and the second one that spans 5. */
    private static final String UNLIKE = "0,5:r2urdr3u2rd2r2";
    /** A bend up, numbers 4 to 6, that grows until it is beside the course that comes back above it. */
    private static final String ROOF = "0,5:r2u2r2d2r2u4l6";

    public static void main(String[] args) {
        runAll(YearTest.class);
    }

    // ---- the years

    static void thePresentYearIs0AtFirst() {
        sentence("The present year is 0 at first.");
        OxbowReaches x = new OxbowReaches();
        due(x.count(5), 0);
        due(x.flood(0, true), 1);
        due(x.flood(-1, true), BAD_VALUE);
    }

    static void thereAreUpTo8FloodYears() {
        sentence("There are up to 8 flood years.");
        OxbowReaches x = new OxbowReaches();
        due(x.count(6), 0);
        for (int k = 0; k < 8; k++) {
            due(x.flood(3 * k, true), k + 1);
        }
        due(x.flood(24, true), TOO_MANY);
        due(x.count(6), 8);
        for (int k = 0; k < 25; k++) {
            due(x.isFlood(k), k % 3 == 0 && k < 24 ? 1 : 0);
        }
        // Each of the eight is one when its year comes: the straight river only lets it be seen by a bend.
        x = stillRiver(HILL);
        for (int k = 0; k < 8; k++) {
            x.flood(3 * k, true);
        }
        x.set(FLOW, 1);
        for (int year = 0; year < 24; year++) {
            x.pass(1);
            due(x.cell(5, 9, 1), year + 1 + year / 3 + 1);
        }
    }

    static void thenItIsTheNextYear() {
        sentence("Then it is the next year.");
        OxbowReaches x = new OxbowReaches();
        x.pass(1);
        due(x.count(5), 1);
        x.pass(50);
        due(x.count(5), 51);
        // The flood of a year is not that of the year ahead of it, nor of the one behind it.
        x = stillRiver(HILL);
        x.flood(1, true);
        x.pass(1);
        due(x.cell(5, 9, 1), 2);
        x.pass(1);
        due(x.cell(5, 9, 1), 6);
        x.pass(1);
        due(x.cell(5, 9, 1), 8);
    }

    // ---- wear

    static void aBendThatIsNotFirmWearsItsBank() {
        sentence("Each bend that is not firm wears its bank");
        OxbowReaches x = stillRiver(HILL);
        x.dike(5, 9, true);
        x.pass(5);
        due(x.count(11), 0);
        x.dike(5, 9, false);
        x.pass(1);
        due(x.count(11), 8);
        x.dike(8, 9, true);
        x.pass(5);
        due(x.count(11), 8);
        // At the end of the land, and below the course.
        x = stillRiver("3,8:u3r2d3");
        x.pass(5);
        due(x.count(11), 0);
        x = stillRiver("0,5:r2u2r2d2r2u3l6");
        due(x.bend(0, 3), 1);
        x.pass(1);
        dueEach(0, x.cell(2, 8, 1), x.cell(3, 8, 1), x.cell(4, 8, 1));
        x = stillRiver("0,6:r9r9r");
        x.pass(50);
        due(x.count(11), 0);
    }

    static void wearBecomesFlowMore() {
        sentence("the wear of each cell of it becomes FLOW more");
        OxbowReaches x = stillRiver(HILL);
        x.set(FLOW, 1);
        x.pass(1);
        due(x.cell(5, 9, 1), 1);
        x.set(FLOW, 9);
        x.pass(1);
        due(x.cell(5, 9, 1), 10);
        x.pass(1);
        due(x.cell(8, 9, 1), 19);
    }

    static void aFloodYearWearsTwice() {
        sentence("(in a flood year two times FLOW)");
        OxbowReaches x = stillRiver(HILL);
        x.flood(0, true);
        x.flood(2, true);
        x.set(FLOW, 9);
        x.pass(1);
        due(x.cell(5, 9, 1), 18);
        x.pass(1);
        due(x.cell(5, 9, 1), 27);
        x.set(FLOW, 1);
        x.pass(1);
        due(x.cell(5, 9, 1), 29);
    }

    static void wearIsAtMost99() {
        sentence("but at most 99");
        OxbowReaches x = stillRiver(MEETING);
        x.set(FLOW, 9);
        x.pass(5);
        due(x.cell(5, 5, 1), 90);
        x.save(0);
        x.set(FLOW, 4);
        x.pass(1);
        due(x.cell(5, 5, 1), 98);
        x.set(FLOW, 1);
        x.pass(1);
        due(x.cell(5, 5, 1), 99);
        x.pass(1);
        due(x.cell(5, 5, 1), 99);
        dueEach(51, x.cell(3, 5, 1), x.cell(4, 5, 1), x.cell(6, 5, 1), x.cell(7, 5, 1));
        // One more than 99, and far more, in a flood.
        x.restore(0);
        x.set(FLOW, 5);
        x.pass(1);
        due(x.cell(5, 5, 1), 99);
        x.restore(0);
        x.flood(5, true);
        x.set(FLOW, 7);
        x.pass(1);
        due(x.cell(5, 5, 1), 99);
        due(x.cell(3, 5, 1), 59);
        due(x.count(9), 0);
    }

    static void wearOfAnOxbowsCellBecomes99() {
        sentence("if it belongs to an oxbow, its wear becomes 99 instead.");
        OxbowReaches x = stillRiver(OMEGA);
        x.cut(0);
        dueBend(x, 0, 6, 11, UP, 0, 0, 0);
        x.pass(1);
        dueEach(99, x.cell(6, 6, 1), x.cell(7, 6, 1));
        dueEach(2, x.cell(4, 6, 1), x.cell(5, 6, 1), x.cell(8, 6, 1), x.cell(9, 6, 1));
        dueEach(0, x.cell(6, 7, 1), x.cell(7, 7, 1), x.cell(6, 8, 1), x.cell(7, 8, 1));
        // It is 99 still, in a flood, too.
        x.flood(1, true);
        x.pass(1);
        dueEach(99, x.cell(6, 6, 1), x.cell(7, 6, 1));
        due(x.cell(5, 6, 1), 6);
        // A firm bend does not wear an oxbow either.
        x = stillRiver(OMEGA);
        x.cut(0);
        x.dike(9, 6, true);
        x.pass(1);
        due(x.count(11), 0);
        // Cells that belong to an oxbow no more wear as others do.
        x = stillRiver(OMEGA);
        x.cut(0);
        x.set(SILT, 1);
        x.dike(4, 6, true);
        x.pass(1);
        due(x.count(4), 0);
        x.dike(4, 6, false);
        x.pass(1);
        dueEach(2, x.cell(6, 6, 1), x.cell(7, 6, 1), x.cell(4, 6, 1));
    }

    static void aCellOfTwoBanksWearsTwice() {
        sentence("(All bends as they are at the beginning; a cell of two banks wears twice.)");
        OxbowReaches x = stillRiver(MEETING);
        x.pass(1);
        due(x.cell(5, 5, 1), 4);
        dueEach(2, x.cell(3, 5, 1), x.cell(4, 5, 1), x.cell(6, 5, 1), x.cell(7, 5, 1));
        x.flood(1, true);
        x.pass(1);
        due(x.cell(5, 5, 1), 12);
        // If one of the two is firm, only the other one wears it.
        x.dike(7, 5, true);
        x.pass(1);
        due(x.cell(5, 5, 1), 14);
        // A bend that grows in a year wears what was its bank at the beginning, and not that of the one it becomes.
        x = river(HILL);
        x.set(FLOW, 9);
        x.pass(1);
        due(x.count(9), 1);
        dueEach(0, x.cell(5, 10, 1), x.cell(8, 10, 1), x.count(11));
    }

    // ---- growing

    static void bendsGrowAtHard() {
        sentence("the first bend along the course that can grow does so.");
        OxbowReaches x = river(HILL);
        x.set(FLOW, 1);
        x.set(HARD, 60);
        x.pass(50);
        x.pass(9);
        due(x.count(9), 0);
        due(x.cell(5, 9, 1), 59);
        x.pass(1);
        due(x.count(9), 1);
        x = river(HILL);
        x.set(FLOW, 1);
        x.set(HARD, 1);
        x.pass(1);
        due(x.count(9), 1);
        // Of two bends that have the same bank the first one takes it.
        x = river(FACING);
        x.set(HARD, 4);
        x.dike(5, 1, true);
        x.dike(9, 5, true);
        x.dike(6, 9, true);
        x.pass(1);
        due(x.count(9), 1);
        dueCourse(x, 5, 3, 4, 3, 5, 4, 5, 5, 5, 5, 4);
        due(x.cell(3, 6, 0), 27);
    }

    static void severalBendsGrowInAYear() {
        sentence("and so on, until there is none.");
        OxbowReaches x = river("0,5:r2u2r2d2r2u2r2d2r2u2r2d2r2");
        for (int k = 5; k <= 7; k++) {
            x.dike(k, 4, true);
            x.dike(k + 4, 4, true);
        }
        due(x.count(1), 5);
        due(x.count(2), 2);
        x.pass(2);
        due(x.count(9), 0);
        x.pass(1);
        due(x.count(9), 3);
        due(x.count(0), 33);
        dueEach(0, x.count(11));
        // None grows twice: the banks of their new places have no wear.
        dueBend(x, 0, 5, 7, UP, 0, 0, 0);
    }

    static void bendsAheadOfTheGrownOneWait() {
        sentence("Then, of the bends of the new course whose first cell is the last cell of the one that just grew "
            + "(as it was ahead of that: it stays in the course), or behind that along the course, "
            + "the first one that can grow does so");
        // Bend 1 begins with the last cell of bend 0; when that has grown, it begins one cell ahead of it, at (5, 2).
        // The cell (6, 2), which is in its bank then, has been worn by the bend that ends the course.
        OxbowReaches x = stillRiver("0,5:r2d2r3u4l3u2r7d8l2ur");
        due(x.count(1), 7);
        dueBend(x, 0, 4, 7, DOWN, 0, 0, 0);
        dueBend(x, 1, 7, 11, RIGHT, 0, 0, 0);
        dueBend(x, 6, 33, 34, LEFT, 0, 0, 0);
        int[][] dikes = {{1, 8}, {5, 10}, {10, 5}, {8, 0}, {4, 2}, {6, 5}};
        for (int[] cell : dikes) {
            x.dike(cell[0], cell[1], true);
        }
        x.pass(3);
        dueEach(6, x.cell(6, 1, 1), x.cell(6, 2, 1), x.count(11) / 2);
        x.dike(6, 1, true);
        x.dike(4, 2, false);
        x.dike(6, 5, false);
        x.pass(2);
        x.set(HARD, 6);
        due(x.bend(0, 4), 4);
        due(x.bend(1, 4), 4);
        x.pass(1);
        due(x.count(9), 1);
        dueCourse(x, 4, 2, 3, 2, 2, 3, 2, 4, 2, 5, 2, 5, 3);
        dueBend(x, 1, 8, 13, RIGHT, 0, 6, 1);
        // A year later it grows.
        x.pass(1);
        due(x.count(9), 2);
        dueCourse(x, 8, 5, 2, 6, 2, 6, 3);
        // One whose bank has a new cell that is not worn.
        x = river(FACING);
        x.set(FLOW, 9);
        dueBend(x, 1, 9, 12, DOWN, 0, 0, 0);
        dueBend(x, 2, 12, 18, RIGHT, 0, 0, 0);
        x.pass(1);
        due(x.count(9), 3);
        dueBend(x, 2, 15, 23, RIGHT, 0, 0, 0);
        due(x.cell(9, 3, 1), 9);
        due(x.cell(9, 1, 1), 0);
        // Without bend 1 it grows in that year.
        x = river(FACING);
        x.set(FLOW, 9);
        x.dike(5, 1, true);
        x.pass(1);
        due(x.cell(9, 3, 0), 16);
        // The bend that begins with the cell behind that last one, so near as bends can be, grows in that year.
        x = river("0,5:r2urdrur2");
        x.set(NECK, 20);
        dueBend(x, 0, 3, 4, UP);
        dueBend(x, 1, 5, 6, DOWN);
        x.pass(3);
        due(x.count(9), 2);
        dueCourse(x, 2, 2, 5, 2, 6, 2, 7, 3, 7, 3, 6, 3, 5, 3, 4, 4, 4, 4, 5, 4, 6);
    }

    static void growingEndsAt148() {
        sentence("and the course has at most 148 cells.");
        OxbowReaches x = stillRiver(ROWS);
        x.pass(1);
        x.set(HARD, 1);
        x.pass(1);
        due(x.count(9), 3);
        due(x.count(0), 150);
        x = stillRiver(ROWS + "l");
        x.pass(1);
        x.set(HARD, 1);
        x.pass(1);
        due(x.count(9), 2);
        due(x.count(0), 149);
    }

    // ---- ages and cuts

    static void theAgeOfANeckBecomes1More() {
        sentence("The age of each pair that is a neck becomes 1 more, that of each other pair 0.");
        OxbowReaches x = stillRiver(LOOP);
        for (int year = 1; year <= 3; year++) {
            x.pass(1);
            dueEach(year, x.neck(0, 2), x.neck(1, 2), x.neck(2, 2));
        }
        x.cut(2);
        // The oxbow is taken back at once: at the end of that year the pair is a neck, and its age one more.
        x.save(0);
        x.pass(1);
        due(x.count(9), 1);
        dueEach(4, x.neck(0, 2), x.neck(1, 2), x.neck(2, 2));
        // With a year in which it was none its age is counted from 0 again.
        x.restore(0);
        x.dike(5, 8, true);
        x.pass(1);
        dueEach(4, x.neck(0, 2), x.neck(1, 2));
        x.dike(5, 8, false);
        x.pass(1);
        due(x.count(9), 1);
        dueEach(5, x.neck(0, 2), x.neck(1, 2));
        due(x.neck(2, 2), 1);
        due(x.count(3), 3);
    }

    private static void dueCutAtAge(int age) {
        OxbowReaches x = stillRiver(LOOP);
        x.set(NECK, age);
        if (age > 1) {
            due(x.pass(age - 1), 0);
            due(x.neck(0, 2), age - 1);
        }
        due(x.nextCut(0), 0);
        due(x.pass(1), 1);
        due(x.count(0), 12);
    }

    static void aNeckIsCutAtAnAgeOfNeck() {
        sentence("Then, as long as there is a neck with an age of NECK or more");
        dueCutAtAge(1);
        dueCutAtAge(2);
        dueCutAtAge(3);
        dueCutAtAge(20);
        // An age above NECK, when NECK becomes less.
        OxbowReaches x = stillRiver(LOOP);
        x.pass(5);
        x.set(NECK, 2);
        due(x.count(3), 3);
        due(x.pass(1), 1);
        // NECK becomes more.
        x = stillRiver(LOOP);
        x.set(NECK, 3);
        x.pass(2);
        x.set(NECK, 4);
        due(x.pass(1), 0);
        due(x.pass(1), 1);
    }

    static void aFloodCutsAnyNeck() {
        sentence("(in a flood year: as long as there is any neck)");
        OxbowReaches x = stillRiver(LOOP);
        x.flood(0, true);
        due(x.pass(1), 1);
        due(x.count(3), 0);
        x = stillRiver(LOOP);
        x.flood(1, true);
        due(x.pass(1), 0);
        due(x.pass(1), 1);
        // Also one that came in that very year.
        x = river(HILL);
        x.set(FLOW, 3);
        x.flood(0, true);
        x.pass(1);
        due(x.count(9), 1);
        due(x.count(3), 0);
        x = river(ROOF);
        x.set(NECK, 20);
        x.dike(5, 4, true);
        x.dike(7, 7, true);
        x.pass(2);
        x.flood(2, true);
        due(x.count(3), 0);
        due(x.pass(1), 1);
        dueOxbow(x, 0, 14, 1, 3, 8);
        // A flood with no neck cuts none.
        x = new OxbowReaches();
        x.flood(0, true);
        due(x.pass(1), 0);
    }

    static void theWidestNeckIsCutFirst() {
        sentence("one of these is cut: the one with the greatest j - i");
        OxbowReaches x = stillRiver(UNLIKE);
        x.flood(0, true);
        due(x.pass(1), 2);
        dueOxbow(x, 0, 4, 1, 6, 6);
        dueOxbow(x, 1, 2, 1, 2, 6);
        // Of necks in one another the widest takes the others away.
        x = stillRiver(LOOP);
        x.flood(0, true);
        due(x.pass(1), 1);
        dueOxbow(x, 0, 6, 1, 5, 6);
        due(x.oxbow(1, 0), NO_SUCH);
        // One that is wider, but not old enough, is not cut.
        x = river("0,5:r2u2r2d2r2u4l4uldl");
        x.set(NECK, 2);
        x.set(FLOW, 3);
        x.dike(5, 4, true);
        x.dike(7, 7, true);
        due(x.pass(2), 1);
        dueOxbow(x, 0, 4, 1, 2, 10);
        due(x.count(3), 3);
        dueEach(1, x.neck(0, 2), x.neck(1, 2), x.neck(2, 2));
    }

    static void ofSeveralTheOneWithTheLowestI() {
        sentence("of several the one with the lowest i");
        OxbowReaches x = stillRiver(TWINS);
        x.flood(0, true);
        due(x.pass(1), 2);
        dueOxbow(x, 0, 4, 1, 2, 6);
        dueOxbow(x, 1, 4, 1, 6, 6);
        // Two necks that overlap, from 0 to 3 and from 2 to 5: the first one takes the other one away.
        x = stillRiver("2,2:urdrur");
        due(x.count(3), 2);
        dueNeck(x, 0, 0, 3, 0);
        dueNeck(x, 1, 2, 5, 0);
        x.flood(0, true);
        due(x.pass(1), 1);
        dueOxbow(x, 0, 2, 1, 2, 3);
        due(x.count(0), 5);
    }

    static void numbersOfThenAndAgesThatStay() {
        sentence("(by the numbers of then; ages stay as they are in that)");
        OxbowReaches x = stillRiver(TWINS);
        x.pass(1);
        x.cut(3);
        x.dike(6, 7, true);
        x.set(NECK, 2);
        // Of the second loop only its wide neck is left; it is not the widest one any more.
        dueNeck(x, 2, 10, 13, 1);
        due(x.pass(1), 2);
        dueOxbow(x, 0, 2, 1, 6, 7);
        dueOxbow(x, 1, 4, 1, 2, 6);
        dueOxbow(x, 2, 2, 1, 6, 6);
        // The necks that are not cut in a year are a year older then, and no more, and the pairs
        // that were cut are as old.
        x = stillRiver(TWINS);
        x.pass(1);
        x.cut(0);
        x.set(NECK, 3);
        dueNeck(x, 0, 6, 11, 1);
        x.pass(1);
        dueNeck(x, 0, 6, 11, 2);
        due(x.pass(1), 1);
    }

    static void theAgeOfANeckThatWasCutStays() {
        sentence("ages stay as they are in that");
        // The neck of (5, 8) and (6, 8) is two years older than that below it, to which the river grows down.
        OxbowReaches x = river("3,10:d2r2urd4r3");
        x.set(NECK, 5);
        x.dike(5, 10, true);
        due(x.pass(3), 0);
        x.dike(4, 6, true);
        due(x.count(9), 1);
        dueNeck(x, 0, 5, 10, 1);
        dueNeck(x, 1, 6, 9, 3);
        due(x.pass(2), 1);
        dueOxbow(x, 0, 2, 1, 5, 9);
        dueNeck(x, 0, 5, 8, 3);
        // The river takes the oxbow back, and as old as it was, and a year more, the neck is cut again.
        due(x.pass(1), 1);
        dueCounts(x, 8, 2, 2);
        dueOxbow(x, 0, 2, 1, 5, 9);
        dueNeck(x, 0, 5, 8, 4);
        due(x.oxbow(1, 0), NO_SUCH);
        // A year later the one below is as old as NECK: it is the wider one then.
        due(x.pass(1), 1);
        dueCounts(x, 8, 3, 3);
        dueOxbow(x, 0, 4, 1, 5, 8);
    }

    // ---- silt

    private static void dueSiltAt(int years) {
        OxbowReaches x = stillRiver(LOOP);
        x.cut(0);
        x.set(SILT, years);
        due(x.oxbow(0, 1), 0);
        if (years > 1) {
            x.pass(years - 1);
            due(x.oxbow(0, 1), years - 1);
        }
        due(x.ifPassed(1, 3), 0);
        x.pass(1);
        due(x.count(4), 0);
        dueEach(NONE, x.cell(5, 6, 3), x.cell(6, 8, 3));
        due(x.oxbow(0, 0), NO_SUCH);
    }

    static void oxbowsGoAtSilt() {
        sentence("those that have SILT or more go.");
        dueSiltAt(1);
        dueSiltAt(2);
        dueSiltAt(5);
        dueSiltAt(50);
        // SILT that becomes less lets none go but at the end of a year; then all that have as many go.
        OxbowReaches x = stillRiver(TWINS);
        x.cut(0);
        x.cut(0);
        x.pass(4);
        x.set(SILT, 1);
        due(x.count(4), 2);
        due(x.oxbow(0, 1), 4);
        x.pass(1);
        due(x.count(4), 0);
        // Of several the older ones go alone.
        x = stillRiver(TWINS);
        x.cut(0);
        x.pass(1);
        x.cut(0);
        x.pass(3);
        due(x.count(4), 2);
        x.pass(1);
        due(x.count(4), 1);
        dueOxbow(x, 0, 4, 4, 6, 6);
        due(x.cell(6, 6, 3), 0);
        due(x.cell(2, 6, 3), NONE);
        // With all their cells, in the corners of the land, too.
        for (String text : new String[] {"0,1:dru", "19,1:dlu", "0,10:urd", "19,10:uld"}) {
            x = stillRiver(text);
            x.cut(0);
            x.pass(4);
            int cornerX = text.startsWith("0") ? 0 : 19;
            int cornerY = text.contains(",1:") ? 0 : 11;
            due(x.cell(cornerX, cornerY, 3), 0);
            x.pass(1);
            due(x.cell(cornerX, cornerY, 3), NONE);
        }
    }

    static void alsoNewOxbowsAreAYearOld() {
        sentence("The years of each oxbow (also of new ones) become 1 more");
        OxbowReaches x = stillRiver(LOOP);
        x.flood(0, true);
        x.pass(1);
        due(x.oxbow(0, 1), 1);
        x = stillRiver(LOOP);
        x.flood(0, true);
        x.set(SILT, 1);
        due(x.pass(1), 1);
        due(x.count(4), 0);
        due(x.count(8), 1);
        x = stillRiver(LOOP);
        x.flood(0, true);
        x.set(SILT, 2);
        x.pass(1);
        due(x.count(4), 1);
    }
}

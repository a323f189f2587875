/** The sentences of promises 8 to 17 that name a boundary case, a test for each. */
public final class AnswersTest extends Checks {
    /** A bend up, numbers 4 to 6, that grows until it is beside the course that comes back above it. */
    private static final String ROOF = "0,5:r2u2r2d2r2u4l6";

    public static void main(String[] args) {
        runAll(AnswersTest.class);
    }

    // ---- promise 8

    static void cellAnswers() {
        sentence("- `what`: 0 its number in the course (NONE), 1 its wear, 2 whether it is a dike (1 or 0), "
            + "3 the oxbow to which it belongs (NONE)");
        OxbowReaches x = stillRiver(LOOP);
        x.cut(1);
        x.dike(5, 8, true);
        x.pass(1);
        int[][] cells = {
            {0, 5, 0, 0, 0, NONE}, {11, 5, 15, 0, 0, NONE}, {5, 6, 6, 0, 0, NONE}, {12, 5, NONE, 0, 0, NONE},
            {5, 7, 7, 0, 0, NONE}, {5, 8, NONE, 0, 1, NONE}, {6, 8, NONE, 0, 0, NONE},
        };
        for (int[] cell : cells) {
            for (int what = 0; what < 4; what++) {
                due(x.cell(cell[0], cell[1], what), cell[2 + what]);
            }
        }
        x = stillRiver(LOOP);
        x.cut(2);
        x.dike(5, 8, true);
        x.pass(3);
        dueEach(0, x.cell(5, 8, 3), x.cell(6, 8, 3), x.cell(6, 8, 1), x.cell(6, 8, 2));
        dueEach(1, x.cell(5, 8, 2));
        dueEach(NONE, x.cell(6, 8, 0), x.cell(6, 9, 3));
        x = stillRiver(HILL);
        x.pass(7);
        due(x.cell(5, 9, 1), 14);
    }

    static void cellErrorsInTheirOrder() {
        sentence("Returns the number; NO_SUCH if there is no such cell; BAD_VALUE if what is out of range.");
        OxbowReaches x = new OxbowReaches();
        for (int what = -1; what <= 4; what++) {
            dueEach(NO_SUCH, x.cell(-1, 0, what), x.cell(20, 0, what), x.cell(0, -1, what), x.cell(0, 12, what));
            dueEach(NO_SUCH, x.cell(MIN, 6, what), x.cell(MAX, 6, what), x.cell(6, MIN, what), x.cell(6, MAX, what));
        }
        dueEach(BAD_VALUE, x.cell(0, 0, -1), x.cell(0, 0, 4), x.cell(19, 11, 4), x.cell(0, 6, MIN), x.cell(0, 6, MAX));
        dueEach(0, x.cell(0, 6, 0), x.cell(0, 0, 1), x.cell(19, 11, 2));
        dueEach(NONE, x.cell(19, 11, 0), x.cell(19, 11, 3));
    }

    // ---- promise 9

    static void courseAnswers() {
        sentence("- `what`: 0 its x, 1 its y, 2 the way of the step from it (NONE for the last one)");
        OxbowReaches x = river("19,11:ldld");
        dueCourse(x, 0, 19, 11, 18, 11, 18, 10, 17, 10, 17, 9);
        int[] ways = {LEFT, DOWN, LEFT, DOWN, NONE};
        for (int k = 0; k < ways.length; k++) {
            due(x.course(k, 2), ways[k]);
        }
        x = river(FULL);
        due(x.course(148, 2), LEFT);
        due(x.course(149, 2), NONE);
        x = river("0,0:r");
        due(x.course(0, 2), RIGHT);
        due(x.course(1, 2), NONE);
    }

    static void courseErrorsInTheirOrder() {
        sentence("Returns the number; NO_SUCH if there is no such cell; BAD_VALUE if what is out of range.");
        OxbowReaches x = new OxbowReaches();
        for (int what = -1; what <= 3; what++) {
            dueEach(NO_SUCH, x.course(-1, what), x.course(20, what), x.course(150, what), x.course(MIN, what));
            due(x.course(MAX, what), NO_SUCH);
        }
        dueEach(BAD_VALUE, x.course(0, -1), x.course(0, 3), x.course(19, 3), x.course(0, MIN), x.course(0, MAX));
        due(x.course(19, 0), 19);
        x = river(FULL);
        due(x.course(149, 1), 7);
        dueEach(NO_SUCH, x.course(150, 0), x.course(151, 0));
        // Cells that left the course have a number no more.
        x = river(LOOP);
        due(x.course(17, 0), 11);
        x.cut(0);
        due(x.course(11, 0), 11);
        dueEach(NO_SUCH, x.course(12, 0), x.course(17, 0));
    }

    // ---- promise 10

    static void bendAnswers() {
        sentence("- `what`: 0 the number of its first cell in the course, 1 that of its last one, 2 the way a, "
            + "3 whether it is firm (1 or 0), 4 the least wear of its bank (NONE if it is firm), "
            + "5 whether it can grow (1 or 0)");
        OxbowReaches x = stillRiver(HILL);
        dueBend(x, 0, 8, 11, UP, 0, 0, 0);
        x.pass(3);
        x.set(HARD, 6);
        dueBend(x, 0, 8, 11, UP, 0, 6, 1);
        x.set(HARD, 7);
        dueBend(x, 0, 8, 11, UP, 0, 6, 0);
        x.dike(8, 9, true);
        x.set(HARD, 6);
        dueBend(x, 0, 8, 11, UP, 1, NONE, 0);
        // The least wear is one of an oxbow's cells, too: 99 if all are.
        x = stillRiver("0,5:r2u4rd4r2");
        x.set(SILT, 50);
        x.cut(2);
        x.dike(2, 8, true);
        dueBend(x, 0, 4, 5, UP, 1, NONE, 0);
        x.dike(2, 8, false);
        dueBend(x, 0, 4, 5, UP, 0, 0, 0);
        // A course of more than 148 cells lets none grow.
        x = stillRiver(ROWS + "ur4");
        x.set(FLOW, 9);
        x.pass(11);
        dueBend(x, 0, 17, 18, RIGHT, 0, 99, 0);
    }

    static void bendErrorsInTheirOrder() {
        sentence("Returns the number; NO_SUCH if there is no such bend; BAD_VALUE if what is out of range.");
        OxbowReaches x = new OxbowReaches();
        for (int what = -1; what <= 6; what++) {
            dueEach(NO_SUCH, x.bend(0, what), x.bend(-1, what), x.bend(MIN, what), x.bend(MAX, what));
        }
        x = river(FACING);
        for (int what = -1; what <= 6; what++) {
            dueEach(NO_SUCH, x.bend(5, what), x.bend(-1, what),
                x.bend(150, what), x.bend(MIN, what), x.bend(MAX, what));
        }
        dueEach(BAD_VALUE, x.bend(0, -1), x.bend(0, 6), x.bend(4, 6), x.bend(4, MIN), x.bend(4, MAX));
        due(x.bend(4, 0), 23);
        due(x.bend(4, 5), 0);
        // The most bends of a text are numbered to the last one.
        x = river("0,0:" + "ur".repeat(3) + "dr".repeat(3) + "urdr".repeat(3));
        due(x.count(1), 7);
        due(x.bend(7, 0), NO_SUCH);
    }

    // ---- promise 11

    static void neckAnswers() {
        sentence("- `what`: 0 i, 1 j, 2 its age");
        OxbowReaches x = stillRiver(TWINS);
        dueNeck(x, 0, 2, 7, 0);
        dueNeck(x, 3, 11, 14, 0);
        x.pass(19);
        dueNeck(x, 0, 2, 7, 19);
        dueNeck(x, 3, 11, 14, 19);
        // A cut changes the numbers of the necks behind it, and not their ages.
        x.cut(0);
        dueNeck(x, 0, 6, 11, 19);
        dueNeck(x, 1, 7, 10, 19);
        // The oldest one: no flood comes, NECK is 20, and the next year cuts it.
        due(x.nextCut(0), 0);
    }

    static void neckErrorsInTheirOrder() {
        sentence("Returns the number; NO_SUCH if there is no such neck; BAD_VALUE if what is out of range.");
        OxbowReaches x = new OxbowReaches();
        for (int what = -1; what <= 3; what++) {
            dueEach(NO_SUCH, x.neck(0, what), x.neck(-1, what), x.neck(MIN, what), x.neck(MAX, what));
        }
        x = river(LOOP);
        for (int what = -1; what <= 3; what++) {
            dueEach(NO_SUCH, x.neck(3, what), x.neck(-1, what), x.neck(MIN, what), x.neck(MAX, what));
        }
        dueEach(BAD_VALUE, x.neck(0, -1), x.neck(0, 3), x.neck(2, 3), x.neck(2, MIN), x.neck(2, MAX));
        dueNeck(x, 2, 7, 10, 0);
        x.pass(2);
        dueNeck(x, 2, 7, 10, 2);
    }

    // ---- promise 12

    static void oxbowAnswers() {
        sentence("- `what`: 0 how many cells it has, 1 its years, 2 the x and 3 the y of the cell of it "
            + "that was first along the course");
        OxbowReaches x = river(LOOP);
        x.cut(0);
        dueOxbow(x, 0, 6, 0, 5, 6);
        x.pass(4);
        dueOxbow(x, 0, 6, 4, 5, 6);
        // The same cells the other way along.
        x = river("11,5:l5u3ld3l5");
        x.cut(0);
        dueOxbow(x, 0, 6, 0, 6, 6);
        // At the corners of the land.
        x = river("19,0:uld");
        x.cut(0);
        dueOxbow(x, 0, 2, 0, 19, 1);
        x = river("0,11:dru");
        x.cut(0);
        dueOxbow(x, 0, 2, 0, 0, 10);
        // All but two cells of a course of 144, whose last cell is above its first one.
        x = river("0,0:r9r8u" + "l9l7ur9r7u".repeat(3) + "l9l8d6");
        due(x.cut(0), 2);
        dueOxbow(x, 0, 142, 0, 1, 0);
    }

    static void oxbowErrorsInTheirOrder() {
        sentence("Returns the number; NO_SUCH if there is no such oxbow; BAD_VALUE if what is out of range.");
        OxbowReaches x = river(LOOP);
        for (int what = -1; what <= 4; what++) {
            dueEach(NO_SUCH, x.oxbow(0, what), x.oxbow(-1, what),
                x.oxbow(11, what), x.oxbow(MIN, what), x.oxbow(MAX, what));
        }
        x.cut(2);
        for (int what = -1; what <= 4; what++) {
            dueEach(NO_SUCH, x.oxbow(1, what), x.oxbow(-1, what),
                x.oxbow(12, what), x.oxbow(MIN, what), x.oxbow(MAX, what));
        }
        dueEach(BAD_VALUE, x.oxbow(0, -1), x.oxbow(0, 4), x.oxbow(0, MIN), x.oxbow(0, MAX));
        dueOxbow(x, 0, 2, 0, 5, 8);
    }

    // ---- promise 13

    static void countOutOfRange() {
        sentence("Returns the number; BAD_VALUE if what is out of range.");
        OxbowReaches x = new OxbowReaches();
        dueEach(BAD_VALUE, x.count(-1), x.count(18), x.count(MIN), x.count(MAX), x.count(256));
        due(x.count(0), 20);
        due(x.count(17), 0);
    }

    static void countOfWhatThereIs() {
        sentence("- `what`: 0 cells of the course, 1 bends, 2 firm ones, 3 necks, 4 oxbows, 5 the "
            + "present year, 6 flood years, "
            + "7 dikes, 8 necks that were cut so far, 9 how often bends grew so far");
        OxbowReaches x = river(FACING);
        dueCounts(x, 0, 30, 5, 0, 0, 0, 0, 0, 0, 0, 0);
        x.dike(9, 5, true);
        x.dike(0, 0, true);
        dueCounts(x, 2, 1);
        x.dike(4, 5, true);
        dueCounts(x, 2, 3);
        x.flood(9, true);
        x.pass(2);
        dueCounts(x, 5, 2, 1, 3);
        // Both ends of the course's length.
        due(river("0,0:r").count(0), 2);
        due(river(FULL).count(0), 150);
        // All bends are firm.
        x = river("0,0:r9r9rul9l9lur9");
        dueCounts(x, 1, 2, 2);
    }

    static void countOfCutsHasThoseByHand() {
        sentence("8 necks that were cut so far, 9 how often bends grew so far");
        OxbowReaches x = stillRiver(TWINS);
        dueCounts(x, 8, 0, 0);
        x.cut(0);
        dueCounts(x, 8, 1, 0);
        x.flood(0, true);
        x.pass(1);
        dueCounts(x, 8, 2, 0);
        x = river(HILL);
        x.pass(2);
        dueCounts(x, 8, 0, 0);
        x.pass(4);
        dueCounts(x, 8, 0, 2);
        // What if does not count.
        x.ifPassed(50, 1);
        x.nextCut(0);
        x.taken(5, 11);
        dueCounts(x, 8, 0, 2);
    }

    static void countOfTheWinding() {
        sentence("10 how winding the course is: 1000 times its steps, divided by how many columns and rows, together, "
            + "its last cell is away from its first one");
        due(new OxbowReaches().count(10), 1000);
        due(river("0,0:r").count(10), 1000);
        due(river("0,0:r5u6r2").count(10), 1000);
        due(river("9,9:l5d6l2").count(10), 1000);
        // To the right and down, 3 and 1, with 6 steps; to the left and up, 1 and 2, with 7 steps.
        due(river("5,5:ur3d2").count(10), 1500);
        due(river("5,5:dl2u3r").count(10), 2333);
        // The longest ones for the way: the last cell is beside the first one.
        due(river("5,5:r4u4l4d3").count(10), 15000);
        due(river("3,3:urd").count(10), 3000);
        due(river(FULL).count(10), 8764);
    }

    static void countOfTheWear() {
        sentence("11 the sum of the wear of all cells");
        OxbowReaches x = stillRiver("3,3:d2r2u2");
        due(x.count(11), 0);
        x.pass(1);
        due(x.count(11), 6);
        // The corners of the land count.
        int[][] corners = {{0, 0}, {19, 0}, {0, 11}, {19, 11}};
        String[] besideThem = {"2,2:dl2u", "17,2:dr2u", "2,9:ul2d", "17,9:ur2d"};
        for (int k = 0; k < 4; k++) {
            x = stillRiver(besideThem[k]);
            x.pass(1);
            due(x.cell(corners[k][0], corners[k][1], 1), 2);
            due(x.count(11), 6);
        }
    }

    static void countOfSettingsPadAndChanges() {
        sentence("12 to 15 the settings, 16 the length of the pad, 17 how many changes can be undone");
        OxbowReaches x = new OxbowReaches();
        dueCounts(x, 12, 2, 6, 3, 5, 0, 0);
        x.set(FLOW, 1);
        x.set(HARD, 2);
        x.set(NECK, 4);
        x.set(SILT, 8);
        dueCounts(x, 12, 1, 2, 4, 8, 0, 4);
        putText(x, "x".repeat(64));
        dueCounts(x, 16, 64, 4);
        x.wipe();
        dueCounts(x, 16, 0, 4);
    }

    // ---- promise 14

    static void isFloodOf0To999() {
        sentence("- `year`: 0 to 999 Returns 1 or 0; BAD_VALUE if year is out of range.");
        OxbowReaches x = new OxbowReaches();
        dueEach(BAD_VALUE, x.isFlood(-1), x.isFlood(1000), x.isFlood(MIN), x.isFlood(MAX));
        dueEach(0, x.isFlood(0), x.isFlood(999), x.isFlood(500));
        x.flood(0, true);
        x.flood(999, true);
        dueEach(1, x.isFlood(0), x.isFlood(999));
        dueEach(0, x.isFlood(1), x.isFlood(998));
        dueEach(BAD_VALUE, x.isFlood(-1), x.isFlood(1000));
        // Years that are over can be asked for, too.
        x.pass(50);
        due(x.isFlood(0), 1);
        due(x.isFlood(49), 0);
        x.undo();
        x.flood(999, false);
        due(x.isFlood(999), 0);
    }

    // ---- promise 15

    static void ifPassedOutOfRange() {
        sentence("Returns the number; BAD_VALUE if an argument is out of range.");
        OxbowReaches x = new OxbowReaches();
        dueEach(BAD_VALUE, x.ifPassed(0, 2), x.ifPassed(51, 2),
            x.ifPassed(-1, 2), x.ifPassed(MIN, 2), x.ifPassed(MAX, 2));
        dueEach(BAD_VALUE, x.ifPassed(1, -1), x.ifPassed(1, 4), x.ifPassed(50, MIN), x.ifPassed(50, MAX));
        dueEach(BAD_VALUE, x.ifPassed(0, 4), x.ifPassed(51, -1));
        dueEach(20, x.ifPassed(1, 2), x.ifPassed(50, 2));
        dueEach(0, x.ifPassed(1, 0), x.ifPassed(50, 3), x.ifPassed(1, 1), x.ifPassed(1, 3));
    }

    static void ifPassedTellsWhatComes() {
        sentence("- `what`: 0 how many necks would be cut in them, 1 how often bends would grow, "
            + "2 the cells of the course then, 3 the oxbows then");
        OxbowReaches x = river(LOOP);
        int[][] wanted = {{0, 0, 18, 0}, {0, 0, 18, 0}, {1, 1, 12, 1}, {1, 1, 12, 1}, {1, 1, 12, 1}, {1, 1, 12, 1},
            {1, 1, 12, 0}};
        for (int years = 1; years <= wanted.length; years++) {
            for (int what = 0; what < 4; what++) {
                due("ifPassed(" + years + ", " + what + ")", x.ifPassed(years, what), wanted[years - 1][what]);
            }
        }
        // What was cut and grew ahead of them does not count, what there is does.
        x.pass(3);
        dueEach(0, x.ifPassed(1, 0), x.ifPassed(50, 0), x.ifPassed(1, 1), x.ifPassed(4, 3));
        dueEach(1, x.ifPassed(1, 3), x.ifPassed(3, 3));
        dueEach(12, x.ifPassed(1, 2), x.ifPassed(50, 2));
        // A flood of a year that comes.
        x = stillRiver(LOOP);
        x.flood(4, true);
        due(x.ifPassed(4, 0), 0);
        due(x.ifPassed(5, 0), 1);
    }

    static void whatIfChangesNothing() {
        sentence("---- what if; nothing changes");
        OxbowReaches x = river(LOOP);
        x.dike(0, 0, true);
        x.pass(1);
        dueEach(1, x.ifPassed(50, 0), x.ifPassed(2, 0));
        dueEach(1, x.nextCut(0), x.nextCut(0));
        dueEach(1, x.taken(5, 9), x.taken(5, 9));
        dueCounts(x, 0, 18, 1, 0, 3, 0, 1, 0, 1, 0, 0);
        dueCounts(x, 11, 4, 2, 6, 3, 5, 0, 3);
        due(x.neck(0, 2), 1);
        due(x.undo(), 2);
    }

    /** A river in the year 999, with the hill's bank free and unworn. */
    private static OxbowReaches lateHill() {
        OxbowReaches x = river(HILL);
        x.dike(6, 9, true);
        passToTheLastYear(x);
        x.dike(6, 9, false);
        return x;
    }

    static void theYear999DoesNotMatter() {
        sentence("---- what if; nothing changes, and the year 999 does not matter.");
        OxbowReaches x = lateHill();
        due(x.pass(1), TOO_MANY);
        due(x.ifPassed(1, 2), 20);
        due(x.ifPassed(3, 1), 1);
        due(x.ifPassed(50, 1), 3);
        due(x.ifPassed(50, 2), 26);
        due(x.taken(5, 9), 2);
        due(x.taken(5, 11), 8);
        // The flood of the year 999 is the only one that may come.
        x.flood(999, true);
        due(x.taken(5, 9), 1);
        x = river(LOOP);
        x.set(NECK, 20);
        x.set(HARD, 60);
        x.dike(5, 9, true);
        due(x.nextCut(0), 19);
        due(x.count(5), 0);
        x = river(ROOF);
        x.dike(5, 4, true);
        x.dike(7, 7, true);
        x.dike(3, 8, true);
        passToTheLastYear(x);
        x.dike(3, 8, false);
        due(x.nextCut(0), 4);
        due(x.nextCut(1), 14);
        due(x.count(5), 999);
    }

    // ---- promise 16

    static void nextCutOutOfRange() {
        sentence("BAD_VALUE if what is neither 0 nor 1");
        OxbowReaches x = river(LOOP);
        dueEach(BAD_VALUE, x.nextCut(-1), x.nextCut(2), x.nextCut(MIN), x.nextCut(MAX));
        due(x.nextCut(0), 2);
        due(x.nextCut(1), 8);
        // Also if there is no cut.
        x = new OxbowReaches();
        dueEach(BAD_VALUE, x.nextCut(-1), x.nextCut(2));
        dueEach(NONE, x.nextCut(0), x.nextCut(1));
    }

    static void nextCutInThePresentYear() {
        sentence("- `what`: 0 how many years pass ahead of it (0: it is the present one), "
            + "1 by how many cells all cuts of that year make the course shorter");
        OxbowReaches x = stillRiver(LOOP);
        x.set(NECK, 1);
        due(x.nextCut(0), 0);
        due(x.nextCut(1), 6);
        x.set(NECK, 2);
        due(x.nextCut(0), 1);
        x.pass(1);
        due(x.nextCut(0), 0);
        x.pass(1);
        due(x.nextCut(0), NONE);
        // Cells that grew in that year and are cut off in it count.
        x = river(LOOP);
        due(x.nextCut(1), 8);
        due(x.count(0) - x.ifPassed(3, 2), 6);
        // All cuts of the year count: two of them with four cells each.
        x = stillRiver(TWINS);
        x.flood(7, true);
        due(x.nextCut(0), 7);
        due(x.nextCut(1), 8);
        // A cut by hand is none of that year.
        x.cut(3);
        x.set(NECK, 5);
        x.dike(6, 7, true);
        x.pass(4);
        due(x.nextCut(0), 0);
        due(x.nextCut(1), 6);
    }

    static void noCutIn60Years() {
        sentence("NONE if there is none in 60 years.");
        OxbowReaches x = river(ROOF);
        x.dike(5, 4, true);
        x.dike(7, 7, true);
        x.set(FLOW, 1);
        x.set(HARD, 60);
        // It grows in the 60th year; with NECK 1 the cut comes in that year, with NECK 2 a year later.
        x.set(NECK, 1);
        due(x.nextCut(0), 59);
        due(x.nextCut(1), 14);
        x.set(NECK, 2);
        dueEach(NONE, x.nextCut(0), x.nextCut(1));
        x.pass(1);
        due(x.nextCut(0), 59);
        due(x.nextCut(1), 14);
    }

    // ---- promise 17

    static void takenOfNoSuchCell() {
        sentence("Returns how many (0: it does so in the present one); NO_SUCH if there is no such cell");
        OxbowReaches x = river(HILL);
        dueEach(NO_SUCH, x.taken(-1, 9), x.taken(20, 9), x.taken(5, -1), x.taken(5, 12));
        dueEach(NO_SUCH, x.taken(MIN, 9), x.taken(MAX, 9), x.taken(5, MIN),
            x.taken(5, MAX), x.taken(25, 8), x.taken(-15, 10));
        dueEach(2, x.taken(5, 9), x.taken(6, 9), x.taken(7, 9), x.taken(8, 9));
        dueEach(NONE, x.taken(4, 9), x.taken(9, 9));
        dueEach(5, x.taken(5, 10), x.taken(8, 10));
        dueEach(8, x.taken(5, 11), x.taken(8, 11));
        x.pass(2);
        dueEach(0, x.taken(5, 9), x.taken(8, 9));
        due(x.taken(5, 10), 3);
    }

    static void takenOfACellOfTheCourse() {
        sentence("NONE if it belongs to the course now, or does not come into it in 60 years.");
        OxbowReaches x = stillRiver(LOOP);
        dueEach(NONE, x.taken(5, 8), x.taken(0, 5), x.taken(11, 5));
        // Also if it leaves the course in this year.
        x.set(NECK, 3);
        x.pass(2);
        dueEach(NONE, x.taken(5, 7), x.taken(6, 8));
        x.cut(1);
        due(x.taken(5, 7), 0);
        due(x.taken(6, 8), NONE);
        // Also if it leaves the course, and the river takes the oxbow back later.
        x = river("0,3:r4u2r2u3rd3r2d2r4");
        due(x.cell(6, 6, 0), 9);
        dueEach(NONE, x.taken(6, 6), x.taken(7, 6));
        due(x.pass(3), 1);
        due(x.cell(6, 6, 0), NONE);
        dueEach(2, x.taken(6, 6), x.taken(7, 6));
        x.pass(3);
        due(x.cell(6, 6, 0), 9);
        dueEach(NONE, x.taken(6, 6), x.taken(7, 6));
    }

    static void takenIn60Years() {
        sentence("or does not come into it in 60 years.");
        OxbowReaches x = river(HILL);
        x.set(FLOW, 1);
        x.set(HARD, 60);
        due(x.taken(5, 9), 59);
        due(x.taken(5, 10), NONE);
        x.dike(5, 9, true);
        due(x.taken(5, 9), NONE);
        due(x.taken(6, 9), NONE);
        x.dike(5, 9, false);
        x.set(HARD, 30);
        due(x.taken(5, 9), 29);
        due(x.taken(5, 10), 59);
        due(x.taken(5, 11), NONE);
        x.set(HARD, 31);
        due(x.taken(5, 10), NONE);
        x.pass(1);
        due(x.taken(5, 10), NONE);
        x.pass(1);
        due(x.taken(5, 10), 59);
    }

    static void takenByGrowingOnly() {
        sentence("Tells how many years pass ahead of the next one in which a cell comes into the course by growing, "
            + "if nothing else happens.");
        // It comes and is cut off in the same year.
        OxbowReaches x = river(LOOP);
        dueEach(2, x.taken(5, 9), x.taken(6, 9));
        dueEach(NONE, x.taken(5, 10), x.taken(6, 10));
        // A question for another cell does not stand in the way of the next one.
        x = river(HILL);
        due(x.taken(5, 10), 5);
        due(x.taken(5, 9), 2);
        due(x.taken(0, 0), NONE);
        due(x.taken(5, 10), 5);
        due(x.nextCut(0), NONE);
        due(x.taken(19, 11), NONE);
    }
}

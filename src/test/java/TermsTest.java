/** The sentences under "Terms" that name a boundary case, from the conventions to the oxbows, a test for each. */
public final class TermsTest extends Checks {
    /** A bend up, numbers 4 to 6, and behind it a bend down, numbers 12 to 14. */
    private static final String WAVE = "0,3:r2u2r2d2r2d2r2u2r2";
    /** The bank of bend 0 is (3, 5) to (5, 5); a bend that grows down to it has (4, 5) and (3, 5) in its bank, too. */
    private static final String FACING_LEFT = "0,2:r3u2r2d2r3u6l4d2lu2l3";
    /** The same, but the other bend has (5, 5) and (4, 5) in its bank. */
    private static final String FACING_RIGHT = "0,2:r3u2r2d2r3u6l3d2lu2l3";

    public static void main(String[] args) {
        runAll(TermsTest.class);
    }

    // ---- conventions

    static void errorCodes() {
        sentence("A method that fails returns one of the error codes NO_SUCH (-1), BAD_VALUE (-2), BAD_TEXT (-3), "
            + "TOO_MANY (-4) and NOT_POSSIBLE (-5)");
        due(OxbowReaches.NO_SUCH, -1);
        due(OxbowReaches.BAD_VALUE, -2);
        due(OxbowReaches.BAD_TEXT, -3);
        due(OxbowReaches.TOO_MANY, -4);
        due(OxbowReaches.NOT_POSSIBLE, -5);
        OxbowReaches x = new OxbowReaches();
        due(x.cut(0), -1);
        due(x.set(0, 0), -2);
        due(x.read(), -3);
        due(readText(x, FULL + "l"), -4);
        due(x.undo(), -5);
    }

    static void theFirstErrorThatAppliesIsReturned() {
        sentence("it names its errors in the order in which they are checked, and the first one "
            + "that applies is returned.");
        OxbowReaches x = new OxbowReaches();
        passToTheLastYear(x);
        // In each call two or three apply.
        due(readText(x, "0,0:" + "l9".repeat(29) + "l1"), BAD_TEXT);
        due(readText(x, "0,0:" + "l9".repeat(30)), TOO_MANY);
        due(x.flood(0, false), BAD_VALUE);
        due(x.pass(51), BAD_VALUE);
        due(x.cell(20, 12, 4), NO_SUCH);
        due(x.course(20, 3), NO_SUCH);
        due(x.bend(0, 6), NO_SUCH);
        due(x.neck(0, 3), NO_SUCH);
        due(x.oxbow(0, 4), NO_SUCH);
        due(x.restore(2), BAD_VALUE);
        due(x.put(packed("r r")), BAD_VALUE);
        due(x.wipe(), 64);
    }

    static void theSettingsHaveNumbers() {
        sentence("`FLOW = 0, HARD = 1, NECK = 2, SILT = 3`: Settings.");
        due(OxbowReaches.FLOW, 0);
        due(OxbowReaches.HARD, 1);
        due(OxbowReaches.NECK, 2);
        due(OxbowReaches.SILT, 3);
        OxbowReaches x = new OxbowReaches();
        due(x.set(OxbowReaches.FLOW, 1), 2);
        due(x.set(OxbowReaches.HARD, 1), 6);
        due(x.set(OxbowReaches.NECK, 1), 3);
        due(x.set(OxbowReaches.SILT, 1), 5);
    }

    static void noneIsOnlyReturnedIfNoErrorApplies() {
        sentence("NONE (-6) is not an error; it is returned only if no error applies.");
        due(OxbowReaches.NONE, -6);
        OxbowReaches x = new OxbowReaches();
        dueEach(NONE, x.cell(0, 0, 0), x.cell(0, 0, 3), x.course(19, 2), x.nextCut(0), x.nextCut(1));
        dueEach(NONE, x.taken(0, 6), x.taken(0, 7));
        dueEach(NO_SUCH, x.cell(20, 0, 0), x.cell(0, 12, 3), x.course(20, 2), x.taken(0, 12), x.taken(-1, 6));
        dueEach(BAD_VALUE, x.cell(0, 0, 4), x.course(19, 3), x.nextCut(2), x.nextCut(-1));
        x = river("3,8:u3r2d3");
        due(x.bend(0, 4), NONE);
        due(x.bend(0, 6), BAD_VALUE);
        due(x.bend(1, 4), NO_SUCH);
    }

    static void everythingIsNumberedFromZero() {
        sentence("Everything is numbered from 0.");
        OxbowReaches x = river(LOOP);
        x.cut(2);
        x.cut(1);
        dueCounts(x, 0, 14, 1, 0, 1, 2);
        due(x.cell(0, 5, 0), 0);
        dueEach(NO_SUCH, x.course(-1, 0), x.bend(-1, 0), x.neck(-1, 0), x.oxbow(-1, 0));
        dueCourse(x, 0, 0, 5);
        dueCourse(x, 13, 11, 5);
        dueBend(x, 0, 6, 7);
        dueNeck(x, 0, 5, 8);
        dueOxbow(x, 0, 2, 0, 5, 8);
        dueOxbow(x, 1, 2, 0, 5, 7);
        dueEach(NO_SUCH, x.course(14, 0), x.bend(1, 0), x.neck(1, 0), x.oxbow(2, 0));
        due(x.save(0), 14);
        due(x.save(1), 14);
    }

    static void divisionsAreRoundedDown() {
        sentence("Divisions are rounded down.");
        // 15 steps, 7 columns away: 2142.857...
        due(river("0,0:r2u4rd4r4").count(10), 2142);
        // 19 steps, 13 columns away: 1461.538...
        due(river(HILL).count(10), 1461);
        // 5 steps, 3 rows away: 1666.666...
        due(river("9,9:ld3r").count(10), 1666);
        // 4 steps, 2 columns away: 2000 and nothing over.
        due(river("0,0:ur2d").count(10), 2000);
    }

    // ---- settings

    private static void dueRange(int setting, int first, int highest) {
        OxbowReaches x = new OxbowReaches();
        due(x.count(12 + setting), first);
        dueEach(BAD_VALUE, x.set(setting, 0), x.set(setting, -1), x.set(setting, highest + 1));
        dueEach(BAD_VALUE, x.set(setting, MIN), x.set(setting, MAX), x.set(setting, 256 + first));
        due(x.count(12 + setting), first);
        due(x.set(setting, 1), first);
        due(x.count(12 + setting), 1);
        due(x.set(setting, highest), 1);
        due(x.count(12 + setting), highest);
        for (int other = 0; other < 4; other++) {
            if (other != setting) {
                due(x.count(12 + other), new int[] {2, 6, 3, 5}[other]);
            }
        }
    }

    static void flowIs1To9() {
        sentence("FLOW (1 to 9; 2).");
        dueRange(FLOW, 2, 9);
    }

    static void hardIs1To60() {
        sentence("HARD (1 to 60; 6).");
        dueRange(HARD, 6, 60);
    }

    static void neckIs1To20() {
        sentence("NECK (1 to 20; 3).");
        dueRange(NECK, 3, 20);
    }

    static void siltIs1To50() {
        sentence("SILT (1 to 50; 5).");
        dueRange(SILT, 5, 50);
    }

    // ---- land and course

    static void landHas20By12Cells() {
        sentence("The land has 20 by 12 cells: x is 0 to 19 (to the right), y 0 to 11 (up).");
        OxbowReaches x = new OxbowReaches();
        dueEach(0, x.cell(0, 0, 1), x.cell(19, 0, 1), x.cell(0, 11, 1), x.cell(19, 11, 1));
        dueEach(NO_SUCH, x.cell(-1, 0, 1), x.cell(20, 0, 1), x.cell(0, -1, 1), x.cell(0, 12, 1));
        dueEach(NO_SUCH, x.cell(-1, 1, 1), x.cell(20, 10, 1),
            x.cell(MIN, 0, 1), x.cell(0, MIN, 1), x.cell(MAX, MAX, 1));
        dueEach(NONE, x.taken(0, 0), x.taken(19, 0), x.taken(0, 11), x.taken(19, 11));
        dueEach(NO_SUCH, x.taken(-1, 0), x.taken(20, 0), x.taken(0, -1),
            x.taken(0, 12), x.taken(MIN, 0), x.taken(0, MAX));
        due(x.dike(0, 0, true), 1);
        due(x.dike(19, 0, true), 2);
        due(x.dike(0, 11, true), 3);
        due(x.dike(19, 11, true), 4);
        dueEach(NO_SUCH, x.dike(-1, 0, true), x.dike(20, 0, true), x.dike(0, -1, true), x.dike(0, 12, true));
        dueCourse(river("19,11:l"), 0, 19, 11, 18, 11);
        dueCourse(river("19,0:u"), 0, 19, 0, 19, 1);
        dueCourse(river("0,11:d"), 0, 0, 11, 0, 10);
        dueCourse(river("0,0:r"), 0, 0, 0, 1, 0);
    }

    static void neighboursDifferBy1InOneCoordinate() {
        sentence("Two cells are neighbours if one coordinate differs by 1, and the other one is the same.");
        // The right end of a row is no neighbour of the left end of the next one, nor the top one of the bottom.
        due(readNew("19,3:r"), NOT_POSSIBLE);
        due(readNew("0,3:l"), NOT_POSSIBLE);
        due(readNew("4,11:u"), NOT_POSSIBLE);
        due(readNew("4,0:d"), NOT_POSSIBLE);
        due(river("0,7:r9r9rd").count(3), 0);
        due(river("3,0:u9u2").count(3), 0);
        // (5, 5) and (6, 4) differ by 1 in both coordinates, (2, 6) and (4, 6) by 2 in one.
        due(river("5,5:u2r2d3l").count(3), 0);
        due(river("0,5:r2u2r2d2").count(3), 0);
        // Above, below, to the left and to the right.
        dueNeck(river("5,5:rul"), 0, 0, 3);
        dueNeck(river("5,5:rdl"), 0, 0, 3);
        dueNeck(river("5,5:uld"), 0, 0, 3);
        dueNeck(river("5,5:urd"), 0, 0, 3);
    }

    static void courseHas2To150Cells() {
        sentence("it has 2 to 150 cells, numbered from 0.");
        due(readNew("5,5:"), BAD_TEXT);
        due(readNew("5,5:r"), 2);
        due(readNew(FULL), 150);
        due(readNew(FULL + "l"), TOO_MANY);
        OxbowReaches x = river("3,3:urd");
        due(x.cut(0), 2);
        dueCourse(x, 0, 3, 3, 4, 3);
        dueEach(RIGHT, x.course(0, 2));
        dueEach(NONE, x.course(1, 2), x.nextCut(0));
        dueCounts(x, 0, 2, 0, 0, 0, 1, 0, 0, 0, 1, 0, 1000);
        due(x.cut(0), NO_SUCH);
        due(x.pass(1), 0);
        due(x.count(0), 2);
    }

    static void cellsOfACourseAreUnlike() {
        sentence("The course of the river is a row of unlike cells, each of them a neighbour of the one ahead of it");
        due(readNew("5,5:rl"), NOT_POSSIBLE);
        due(readNew("5,5:ruld"), NOT_POSSIBLE);
        due(readNew("5,5:r2ul3d2r2"), 11);
        due(readNew("5,5:r2ul3d2r2u"), NOT_POSSIBLE);
        due(readNew("5,5:r2ul3d2r3u"), NOT_POSSIBLE);
    }

    static void theFirstCourseIsStraight() {
        sentence("At first it goes from (0, 6) to (19, 6), straight to the right.");
        OxbowReaches x = new OxbowReaches();
        due(x.count(0), 20);
        for (int k = 0; k < 20; k++) {
            dueCourse(x, k, k, 6);
            due(x.cell(k, 6, 0), k);
            due(x.course(k, 2), k == 19 ? NONE : RIGHT);
            dueEach(NONE, x.cell(k, 5, 0), x.cell(k, 7, 0));
        }
    }

    static void stepsGoFourWays() {
        sentence("A step goes from a cell of the course to the next one: right (0), up (1), left (2) or down (3).");
        OxbowReaches x = river("5,5:ru2l3d4r");
        int[] ways = {0, 1, 1, 2, 2, 2, 3, 3, 3, 3, 0, NONE};
        for (int k = 0; k < ways.length; k++) {
            due(x.course(k, 2), ways[k]);
        }
        dueCourse(x, 0, 5, 5, 6, 5, 6, 6, 6, 7, 5, 7, 4, 7, 3, 7, 3, 6, 3, 5, 3, 4, 3, 3, 4, 3);
    }

    static void noWearAndNoDikeAtFirst() {
        sentence("Each cell has a wear, at first 0, and is a dike or not (at first not).");
        for (int y = 0; y < 12; y++) {
            OxbowReaches x = new OxbowReaches();
            due(x.count(7), 0);
            due(x.count(11), 0);
            for (int k = 0; k < 20; k++) {
                dueEach(0, x.cell(k, y, 1), x.cell(k, y, 2));
            }
        }
    }

    // ---- bends

    static void aBendHasOneOrMoreSteps() {
        sentence("A bend is a row of one or more steps that all go the same way");
        dueBend(river("0,5:urd"), 0, 1, 2, UP, 0, 0, 0);
        dueBend(river("0,5:ur2d"), 0, 1, 3, UP, 0, 0, 0);
        dueBend(river("0,3:ur9r9rd"), 0, 1, 20, UP, 0, 0, 0);
        OxbowReaches x = river("0,3:u2r5d2");
        due(x.count(1), 1);
        dueBend(x, 0, 2, 7, UP, 0, 0, 0);
        due(x.bend(1, 0), NO_SUCH);
        due(new OxbowReaches().count(1), 0);
    }

    static void aBendNeedsStepsAheadAndBehind() {
        sentence("with a step ahead of it that goes a way a at a right angle to it, "
            + "and a step behind it that goes the way opposite to a.");
        // No step ahead, no step behind, neither.
        due(river("0,5:r2d").count(1), 0);
        due(river("0,5:ur2").count(1), 0);
        due(river("0,5:r2").count(1), 0);
        due(river("0,5:r").count(1), 0);
        // The step behind goes the same way as the one ahead.
        due(river("0,5:ur2u").count(1), 0);
        due(river("0,5:dr2d").count(1), 0);
        due(river("5,5:lu2l").count(1), 0);
        due(river("5,5:rd2r").count(1), 0);
        // All ways to turn and to turn back.
        due(river("5,5:urd").bend(0, 2), UP);
        due(river("5,5:uld").bend(0, 2), UP);
        due(river("5,5:dru").bend(0, 2), DOWN);
        due(river("5,5:dlu").bend(0, 2), DOWN);
        due(river("5,5:rul").bend(0, 2), RIGHT);
        due(river("5,5:rdl").bend(0, 2), RIGHT);
        due(river("5,5:lur").bend(0, 2), LEFT);
        due(river("5,5:ldr").bend(0, 2), LEFT);
    }

    static void cellsOfABend() {
        sentence("Its cells are those from which and to which these steps go. "
            + "Its bank are the cells to which one comes from its cells by one step of the way a.");
        OxbowReaches x = stillRiver(HILL);
        dueBend(x, 0, 8, 11);
        x.pass(1);
        dueEach(2, x.cell(5, 9, 1), x.cell(6, 9, 1), x.cell(7, 9, 1), x.cell(8, 9, 1));
        dueEach(0, x.cell(4, 9, 1), x.cell(9, 9, 1), x.cell(5, 10, 1),
            x.cell(4, 8, 1), x.cell(5, 8, 1), x.cell(6, 7, 1));
        due(x.count(11), 8);
        x = stillRiver("16,3:r2u2l2");
        x.pass(1);
        dueEach(2, x.cell(19, 3, 1), x.cell(19, 4, 1), x.cell(19, 5, 1));
        due(x.count(11), 6);
        x = stillRiver("3,8:l2d2r2");
        x.pass(1);
        dueEach(2, x.cell(0, 8, 1), x.cell(0, 7, 1), x.cell(0, 6, 1));
        due(x.count(11), 6);
        x = stillRiver("3,3:d2r2u2");
        x.pass(1);
        dueEach(2, x.cell(3, 0, 1), x.cell(4, 0, 1), x.cell(5, 0, 1));
        due(x.count(11), 6);
    }

    static void aBendIsFirmAtTheEndOfTheLand() {
        sentence("It is firm if one of its bank's cells is not on the land, is a dike, or belongs to the course.");
        due(river("3,8:u3r2d3").bend(0, 3), 1);
        due(river("3,7:u3r2d3").bend(0, 3), 0);
        due(river("3,3:d3r2u3").bend(0, 3), 1);
        due(river("3,4:d3r2u3").bend(0, 3), 0);
        due(river("3,3:l3u2r3").bend(0, 3), 1);
        due(river("4,3:l3u2r3").bend(0, 3), 0);
        due(river("16,3:r3u2l3").bend(0, 3), 1);
        due(river("15,3:r3u2l3").bend(0, 3), 0);
        due(river("16,9:r3u2l3").bend(0, 3), 1);
        due(river("3,2:l3d2r3").bend(0, 3), 1);
    }

    static void aBendIsFirmAtADike() {
        sentence("It is firm if one of its bank's cells is not on the land, is a dike, or belongs to the course.");
        for (int k = 5; k <= 8; k++) {
            OxbowReaches x = river(HILL);
            x.dike(k, 9, true);
            dueBend(x, 0, 8, 11, UP, 1, NONE, 0);
            x.dike(k, 9, false);
            dueBend(x, 0, 8, 11, UP, 0, 0, 0);
        }
        OxbowReaches x = river(HILL);
        int[][] beside = {{4, 9}, {9, 9}, {4, 8}, {9, 8}, {5, 10}, {8, 10}, {6, 7}};
        for (int[] cell : beside) {
            x.dike(cell[0], cell[1], true);
        }
        due(x.count(7), 7);
        dueBend(x, 0, 8, 11, UP, 0, 0, 0);
    }

    static void aBendIsFirmAtTheCourse() {
        sentence("It is firm if one of its bank's cells is not on the land, is a dike, or belongs to the course.");
        // The course comes back above the hill and goes down by one or two cells, at each place of its bank.
        String back = HILL + "u6l";
        for (int left = 5; left <= 8; left++) {
            due(river(back + left + "d2").bend(0, 3), 1);
            due(river(back + left + "d2").bend(0, 4), NONE);
            due(river(back + left + "d").bend(0, 3), 0);
        }
        due(river(back + "4d2").bend(0, 3), 0);
        due(river(back + "9d2").bend(0, 3), 0);
        due(river(back + "9d3").bend(0, 3), 0);
        // Its own legs do not touch its bank.
        due(river(HILL).bend(0, 3), 0);
    }

    static void bendsAreNumberedAlongTheCourse() {
        sentence("Bends are numbered from 0 along the course.");
        OxbowReaches x = river(WAVE);
        due(x.count(1), 2);
        dueBend(x, 0, 4, 6, UP);
        dueBend(x, 1, 12, 14, DOWN);
        dueEach(NO_SUCH, x.bend(2, 0), x.bend(-1, 0), x.bend(MAX, 0), x.bend(MIN, 0));
        // A bend may begin with the cell with which the one ahead of it ends.
        x = river("5,5:urdru");
        due(x.count(1), 2);
        dueBend(x, 0, 1, 2, UP);
        dueBend(x, 1, 3, 4, DOWN);
        x = river("5,5:u2r2dl");
        due(x.count(1), 2);
        dueBend(x, 0, 2, 4, UP);
        dueBend(x, 1, 4, 5, RIGHT);
        // Then its first cell is the next one, if the one ahead has one step.
        x = stillRiver("5,5:urd2l");
        due(x.count(1), 2);
        dueBend(x, 0, 1, 2, UP);
        dueBend(x, 1, 2, 4, RIGHT);
        x.pass(1);
        dueEach(2, x.cell(5, 7, 1), x.cell(6, 7, 1), x.cell(7, 6, 1), x.cell(7, 5, 1), x.cell(7, 4, 1));
        due(x.count(11), 10);
        x.dike(5, 7, true);
        due(x.count(2), 1);
        x.dike(7, 5, true);
        due(x.count(2), 2);
        x.dike(7, 5, false);
        x.set(HARD, 4);
        x.pass(1);
        due(x.count(9), 1);
        due(x.cell(7, 5, 0), 4);
    }

    static void onlyABendThatIsNotFirmCanGrow() {
        sentence("A bend can grow if it is not firm");
        OxbowReaches x = stillRiver(HILL);
        x.pass(3);
        x.set(HARD, 6);
        due(x.bend(0, 5), 1);
        x.dike(6, 9, true);
        due(x.bend(0, 5), 0);
        x.pass(1);
        due(x.count(9), 0);
        x.dike(6, 9, false);
        due(x.bend(0, 5), 1);
        x.pass(1);
        due(x.count(9), 1);
    }

    static void eachCellOfTheBankHasToBeWorn() {
        sentence("the wear of each cell of its bank is HARD or more");
        OxbowReaches x = stillRiver(HILL);
        x.pass(3);
        dueBend(x, 0, 8, 11, UP, 0, 6, 0);
        x.set(HARD, 7);
        due(x.bend(0, 5), 0);
        x.set(HARD, 6);
        due(x.bend(0, 5), 1);
        x.set(HARD, 5);
        due(x.bend(0, 5), 1);
        // Two cells of the bank have a wear of 4, the other one, at either end, has 2.
        for (String text : new String[] {FACING_LEFT, FACING_RIGHT}) {
            x = stillRiver(text);
            x.pass(1);
            dueEach(4, x.cell(4, 5, 1), x.cell(text.equals(FACING_LEFT) ? 3 : 5, 5, 1));
            due(x.cell(text.equals(FACING_LEFT) ? 5 : 3, 5, 1), 2);
            x.set(HARD, 3);
            dueBend(x, 0, 5, 7, UP, 0, 2, 0);
            x.set(HARD, 2);
            due(x.bend(0, 5), 1);
        }
    }

    static void aBendGrowsWithAtMost148Cells() {
        sentence("and the course has at most 148 cells.");
        OxbowReaches x = stillRiver(ROWS + "ur3");
        due(x.count(0), 148);
        x.pass(1);
        x.set(HARD, 2);
        due(x.bend(0, 5), 1);
        due(x.bend(6, 5), 1);
        x.pass(1);
        due(x.count(9), 1);
        due(x.count(0), 150);
        x = stillRiver(ROWS + "ur4");
        due(x.count(0), 149);
        x.pass(1);
        x.set(HARD, 2);
        dueBend(x, 0, 17, 18, RIGHT, 0, 2, 0);
        x.pass(1);
        due(x.count(9), 0);
        due(x.count(0), 149);
    }

    static void howABendGrows() {
        sentence("the course goes from the bend's first cell by a step of the way a to the bank, "
            + "through the cells of the "
            + "bank in their order, and by a step of the opposite way to the bend's last cell");
        OxbowReaches x = river(HILL);
        x.pass(3);
        dueCourse(x, 7, 5, 7, 5, 8, 5, 9, 6, 9, 7, 9, 8, 9, 8, 8, 8, 7, 8, 6, 8, 5);
        int[] ways = {UP, UP, RIGHT, RIGHT, RIGHT, DOWN, DOWN};
        for (int k = 0; k < ways.length; k++) {
            due(x.course(7 + k, 2), ways[k]);
        }
        for (int k = 0; k < 22; k++) {
            due(x.cell(x.course(k, 0), x.course(k, 1), 0), k);
        }
        // To the left, along a row that goes down.
        x = river("5,8:l2d2r2");
        x.pass(3);
        dueCourse(x, 0, 5, 8, 4, 8, 3, 8, 2, 8, 2, 7, 2, 6, 3, 6, 4, 6, 5, 6);
    }

    static void cellsBetweenLeaveTheCourse() {
        sentence("all of the bend's cells between these two belong to the course no more.");
        OxbowReaches x = river(HILL);
        x.pass(3);
        dueEach(NONE, x.cell(6, 8, 0), x.cell(7, 8, 0), x.cell(6, 8, 3), x.cell(7, 8, 3));
        due(x.cell(5, 8, 0), 8);
        due(x.cell(8, 8, 0), 13);
        due(x.count(4), 0);
        due(x.dike(6, 8, true), 1);
        // A bend of one step has none between them.
        x = river(LOOP);
        x.set(NECK, 20);
        x.pass(3);
        dueCourse(x, 7, 5, 7, 5, 8, 5, 9, 6, 9, 6, 8, 6, 7);
        due(x.count(0), 20);
    }

    static void wearOfTheBankBecomes0() {
        sentence("The wear of the bank's cells becomes 0.");
        OxbowReaches x = river(HILL);
        x.set(FLOW, 9);
        x.pass(1);
        due(x.count(9), 1);
        dueEach(0, x.cell(5, 9, 1), x.cell(6, 9, 1), x.cell(7, 9, 1), x.cell(8, 9, 1), x.count(11));
        // That of other cells stays: the bend down has not worn enough.
        x = stillRiver(WAVE);
        x.dike(6, 0, true);
        x.pass(3);
        x.dike(6, 0, false);
        x.pass(1);
        x.set(HARD, 10);
        x.pass(1);
        due(x.count(9), 1);
        dueEach(0, x.cell(2, 6, 1), x.cell(3, 6, 1), x.cell(4, 6, 1));
        dueEach(4, x.cell(6, 0, 1), x.cell(7, 0, 1), x.cell(8, 0, 1));
    }

    static void theCourseIs2CellsLonger() {
        sentence("(The course is 2 cells longer then.)");
        OxbowReaches x = river(HILL);
        x.pass(2);
        due(x.count(0), 20);
        x.pass(1);
        due(x.count(0), 22);
        dueCourse(x, 21, 13, 5);
        due(x.course(22, 0), NO_SUCH);
        x = river("0,3:ur9r9rd");
        x.pass(3);
        due(x.count(0), 24);
    }

    // ---- necks

    static void aNeckReaches3OrMore() {
        sentence("A neck is a pair of cells of the course that are neighbours, with the numbers i and j, "
            + "where j is i + 3 or more.");
        due(new OxbowReaches().count(3), 0);
        due(river("3,3:ur").count(3), 0);
        due(river("3,3:urd").count(3), 1);
        dueNeck(river("3,3:urd"), 0, 0, 3, 0);
        OxbowReaches x = river("5,5:r4u4l4d3");
        due(x.count(0), 16);
        due(x.count(3), 1);
        dueNeck(x, 0, 0, 15, 0);
        x = river(FULL);
        due(x.count(3), 19 * 6 + 9);
        dueNeck(x, 0, 0, 39, 0);
        dueNeck(x, 122, 138, 141, 0);
        due(x.neck(123, 0), NO_SUCH);
    }

    static void necksAreNumberedByIThenByJ() {
        sentence("Necks are numbered from 0 by i, of several with the same i by j.");
        int[][] necks = {{0, 3}, {0, 5}, {0, 7}, {1, 8}};
        // Two spirals: the cells 3, 5 and 7 lie above, to the left and below, or below, to the right and above.
        for (String text : new String[] {"5,5:rul2d2r2", "5,5:ldr2u2l2"}) {
            OxbowReaches x = river(text);
            due(x.count(3), 4);
            for (int k = 0; k < necks.length; k++) {
                dueNeck(x, k, necks[k]);
            }
            dueEach(NO_SUCH, x.neck(4, 0), x.neck(-1, 0), x.neck(MAX, 0), x.neck(MIN, 0));
        }
        OxbowReaches x = river(TWINS);
        int[][] twins = {{2, 7}, {3, 6}, {10, 15}, {11, 14}};
        for (int k = 0; k < twins.length; k++) {
            dueNeck(x, k, twins[k]);
        }
    }

    static void cellsOfACutBecomeAnOxbow() {
        sentence("the cells with numbers between i and j leave the course; they become an oxbow.");
        OxbowReaches x = river(LOOP);
        due(x.cut(1), 14);
        dueCourse(x, 4, 4, 5, 5, 5, 5, 6, 6, 6, 6, 5, 7, 5);
        dueEach(NONE, x.cell(5, 7, 0), x.cell(5, 8, 0), x.cell(6, 8, 0), x.cell(6, 7, 0));
        dueEach(0, x.cell(5, 7, 3), x.cell(5, 8, 3), x.cell(6, 8, 3), x.cell(6, 7, 3));
        dueEach(NONE, x.cell(5, 6, 3), x.cell(6, 6, 3), x.cell(5, 5, 3), x.cell(5, 9, 3));
        due(x.cell(6, 6, 0), 7);
        due(x.cell(11, 5, 0), 13);
        dueOxbow(x, 0, 4, 0, 5, 7);
        // The least that a cut takes are two cells, and the first and the last cell of the course may be the neck.
        x = river("3,3:urd");
        x.cut(0);
        dueOxbow(x, 0, 2, 0, 3, 4);
        x = river("5,5:r4u4l4d3");
        due(x.cut(0), 2);
        dueOxbow(x, 0, 14, 0, 6, 5);
    }

    static void eachPairHasAnAge() {
        sentence("Each pair of neighbours of the land has an age, at first 0");
        OxbowReaches x = stillRiver(LOOP);
        dueEach(0, x.neck(0, 2), x.neck(1, 2), x.neck(2, 2));
        x.pass(2);
        dueEach(2, x.neck(0, 2), x.neck(1, 2), x.neck(2, 2));
        // The age is that of the cells, whatever their numbers become.
        x.cut(2);
        dueNeck(x, 0, 5, 10, 2);
        dueNeck(x, 1, 6, 9, 2);
        // At all corners of the land, along and across.
        String[] corners = {"0,0:urd", "0,0:rul", "18,0:urd", "19,0:lur", "0,10:rul", "0,11:dru",
            "19,10:lur", "18,11:dru"};
        for (String text : corners) {
            x = stillRiver(text);
            due(x.count(3), 1);
            dueNeck(x, 0, 0, 3, 0);
            x.pass(1);
            dueNeck(x, 0, 0, 3, 1);
            x.pass(18);
            dueNeck(x, 0, 0, 3, 19);
            due(x.pass(1), 1);
        }
        // A bend that grew down came above (5, 5), which has been beside (6, 5) from the beginning.
        x = river("2,5:r3d2ru2r2u4l2d2l2u2l2");
        x.set(NECK, 20);
        x.dike(5, 2, true);
        x.dike(9, 5, true);
        x.dike(8, 10, true);
        x.pass(3);
        int[][] necks = {{2, 21, 1}, {3, 8, 3}, {3, 20, 1}, {4, 7, 3}, {8, 19, 1}};
        due(x.count(3), 5);
        for (int k = 0; k < necks.length; k++) {
            dueNeck(x, k, necks[k]);
        }
    }

    // ---- oxbows

    /** Twelve oxbows of two cells each, that of the cells (2, 10), (3, 10) first and (5, 8), (6, 8) last. */
    private static OxbowReaches twelveOxbows() {
        OxbowReaches x = river(TOWERS);
        for (int k = 8; k >= 0; k--) {
            x.cut(k);
        }
        for (int k = 8; k >= 6; k--) {
            x.cut(k);
        }
        return x;
    }

    static void thereAreUpTo12Oxbows() {
        sentence("There are up to 12 oxbows, in the order in which they came");
        OxbowReaches x = new OxbowReaches();
        due(x.count(4), 0);
        due(x.oxbow(0, 0), NO_SUCH);
        x = twelveOxbows();
        due(x.count(4), 12);
        for (int k = 0; k < 9; k++) {
            dueOxbow(x, k, 2, 0, 2, 10 - k);
            due(x.cell(3, 10 - k, 3), k);
        }
        for (int k = 9; k < 12; k++) {
            dueOxbow(x, k, 2, 0, 5, 19 - k);
            due(x.cell(6, 19 - k, 3), k);
        }
        dueEach(NO_SUCH, x.oxbow(12, 0), x.oxbow(-1, 0), x.oxbow(MAX, 0), x.oxbow(MIN, 0));
    }

    static void whenA13thComesTheFirstOneGoes() {
        sentence("(when a 13th comes, the first one goes)");
        OxbowReaches x = twelveOxbows();
        x.cut(5);
        due(x.count(4), 12);
        dueEach(NONE, x.cell(2, 10, 3), x.cell(3, 10, 3));
        dueOxbow(x, 0, 2, 0, 2, 9);
        dueOxbow(x, 11, 2, 0, 5, 7);
        due(x.cell(6, 7, 3), 11);
        due(x.oxbow(12, 0), NO_SUCH);
        x.cut(4);
        due(x.count(4), 12);
        dueOxbow(x, 0, 2, 0, 2, 8);
        dueOxbow(x, 11, 2, 0, 5, 6);
        due(x.count(8), 14);
    }

    static void a13thMayComeInAYear() {
        sentence("(when a 13th comes, the first one goes)");
        // Thirteen bumps of two cells each, nine at the lower end of the land and four above them.
        OxbowReaches x = stillRiver("0,0:" + "urdr".repeat(9) + "ru3" + "luld".repeat(4));
        x.flood(0, true);
        due(x.count(0), 57);
        due(x.nextCut(1), 26);
        due(x.ifPassed(1, 3), 12);
        due(x.pass(1), 13);
        due(x.count(0), 31);
        due(x.count(4), 12);
        dueEach(NONE, x.cell(0, 1, 3), x.cell(1, 1, 3));
        dueOxbow(x, 0, 2, 1, 2, 1);
        dueOxbow(x, 7, 2, 1, 16, 1);
        dueOxbow(x, 8, 2, 1, 18, 4);
        dueOxbow(x, 11, 2, 1, 12, 4);
    }

    static void whenOneGoesThoseBehindMoveUp() {
        sentence("when one goes, those behind it move up.");
        OxbowReaches x = stillRiver("0,5:r2u3rd3r3u3rd3r3u3rd3r2");
        due(x.count(3), 9);
        x.cut(2);
        x.cut(4);
        x.cut(6);
        dueOxbow(x, 0, 2, 0, 2, 8);
        dueOxbow(x, 1, 2, 0, 6, 8);
        dueOxbow(x, 2, 2, 0, 10, 8);
        x.dike(2, 8, true);
        x.dike(10, 8, true);
        // The river takes the middle one back.
        x.pass(1);
        due(x.count(4), 2);
        dueOxbow(x, 0, 2, 1, 2, 8);
        dueOxbow(x, 1, 2, 1, 10, 8);
        due(x.oxbow(2, 0), NO_SUCH);
        dueEach(0, x.cell(2, 8, 3), x.cell(3, 8, 3));
        dueEach(1, x.cell(10, 8, 3), x.cell(11, 8, 3));
        dueEach(NONE, x.cell(6, 8, 3), x.cell(7, 8, 3));
        // Each of them takes all that it has along: four cells and two, of other years.
        x = stillRiver("0,5:r2u3rd3r3u3rd3r3u3rd3r2");
        x.cut(7);
        x.dike(10, 7, true);
        x.pass(1);
        x.cut(3);
        x.cut(1);
        x.dike(2, 7, true);
        dueOxbow(x, 0, 4, 1, 10, 7);
        dueOxbow(x, 1, 6, 0, 6, 6);
        dueOxbow(x, 2, 4, 0, 2, 7);
        x.set(SILT, 2);
        x.pass(1);
        due(x.count(4), 2);
        dueOxbow(x, 0, 6, 1, 6, 6);
        dueOxbow(x, 1, 4, 1, 2, 7);
        dueEach(0, x.cell(6, 6, 3), x.cell(7, 6, 3), x.cell(7, 8, 3));
        dueEach(1, x.cell(2, 7, 3), x.cell(3, 8, 3));
        dueEach(NONE, x.cell(10, 7, 3), x.cell(11, 8, 3));
        due(x.oxbow(2, 0), NO_SUCH);
    }

    static void anOxbowsYearsAreAtFirst0() {
        sentence("An oxbow has cells, and years, at first 0.");
        OxbowReaches x = stillRiver(LOOP);
        x.pass(7);
        x.cut(0);
        dueOxbow(x, 0, 6, 0, 5, 6);
        x.pass(1);
        x = river(TWINS);
        x.cut(3);
        x.dike(6, 7, true);
        x.pass(1);
        x.cut(0);
        due(x.oxbow(0, 1), 1);
        due(x.oxbow(1, 1), 0);
        // Where another one had been that has gone.
        x = stillRiver(TWINS);
        x.cut(0);
        x.pass(5);
        due(x.count(4), 0);
        x.cut(0);
        dueOxbow(x, 0, 4, 0, 6, 6);
        x.pass(4);
        due(x.oxbow(0, 1), 4);
        x.pass(1);
        due(x.count(4), 0);
    }

    static void theWholeOxbowGoes() {
        sentence("When a cell of it comes into the course, the whole oxbow goes.");
        OxbowReaches x = stillRiver(LOOP);
        x.cut(1);
        dueEach(0, x.cell(5, 7, 3), x.cell(5, 8, 3), x.cell(6, 8, 3), x.cell(6, 7, 3));
        x.pass(1);
        due(x.count(4), 0);
        due(x.count(9), 1);
        dueEach(NONE, x.cell(5, 7, 3), x.cell(5, 8, 3), x.cell(6, 8, 3), x.cell(6, 7, 3));
        due(x.cell(5, 7, 0), 7);
        dueEach(NONE, x.cell(5, 8, 0), x.cell(6, 8, 0));
        due(x.oxbow(0, 0), NO_SUCH);
    }
}

/** The promises one by one, with answers that were worked out by hand from the document. */
public final class PromisesTest extends Checks {
    public static void main(String[] args) {
        runAll(PromisesTest.class);
    }

    private static void newObject() {
        start("promise 1");
        OxbowReaches x = new OxbowReaches();
        dueCounts(x, 0, 20, 0, 0, 0, 0, 0, 0, 0, 0, 0, 1000, 0, 2, 6, 3, 5, 0, 0);
        for (int k = 0; k < 20; k++) {
            dueCourse(x, k, k, 6);
            due("course(way)", x.course(k, 2), k == 19 ? NONE : RIGHT);
        }
        due("restore(0)", x.restore(0), NOT_POSSIBLE);
        due("restore(1)", x.restore(1), NOT_POSSIBLE);
        for (int y = 0; y < 12; y++) {
            x = new OxbowReaches();
            for (int k = 0; k < 20; k++) {
                due("cell(number)", x.cell(k, y, 0), y == 6 ? k : NONE);
                due("cell(wear)", x.cell(k, y, 1), 0);
                due("cell(dike)", x.cell(k, y, 2), 0);
                due("cell(oxbow)", x.cell(k, y, 3), NONE);
            }
        }
    }

    private static void set() {
        start("promise 2");
        OxbowReaches x = new OxbowReaches();
        int[] first = {2, 6, 3, 5};
        int[] highest = {9, 60, 20, 50};
        for (int k = 0; k < 4; k++) {
            due("set too low", x.set(k, 0), BAD_VALUE);
            due("set negative", x.set(k, Integer.MIN_VALUE), BAD_VALUE);
            due("set too high", x.set(k, highest[k] + 1), BAD_VALUE);
            due("set huge", x.set(k, Integer.MAX_VALUE), BAD_VALUE);
            due("nothing recorded", x.count(17), 0);
            due("set highest", x.set(k, highest[k]), first[k]);
            due("set lowest", x.set(k, 1), highest[k]);
            due("count(setting)", x.count(12 + k), 1);
            due("set the same", x.set(k, 1), 1);
            due("each is a change", x.count(17), 3);
            due("undo", x.undo(), 2);
            due("undo", x.undo(), 1);
            due("undo", x.undo(), 0);
            due("count(setting)", x.count(12 + k), first[k]);
        }
        due("set(-1, 1)", x.set(-1, 1), BAD_VALUE);
        due("set(4, 1)", x.set(4, 1), BAD_VALUE);
        due("set(MAX, 1)", x.set(Integer.MAX_VALUE, 1), BAD_VALUE);
        due("FLOW", OxbowReaches.FLOW, 0);
        due("HARD", OxbowReaches.HARD, 1);
        due("NECK", OxbowReaches.NECK, 2);
        due("SILT", OxbowReaches.SILT, 3);
    }

    private static void read() {
        start("promise 3");
        OxbowReaches x = new OxbowReaches();
        due("read of nothing", x.read(), BAD_TEXT);
        due("read of a fault", readText(x, "1,1:r1"), BAD_TEXT);
        due("pad is kept", x.count(16), 6);
        due("read of too much", readText(x, FULL + "l"), TOO_MANY);
        due("pad is kept", x.count(16), 49);
        due("too many comes first", readText(x, "0,0:l9l9l9l9l9l9l9l9l9l9l9l9l9l9l9l9l9"), TOO_MANY);
        due("a fault comes first", readText(x, "0,0:l9l9l9l9l9l9l9l9l9l9l9l9l9l9l9l9l9x"), BAD_TEXT);
        due("read off to the left", readText(x, "0,0:l"), NOT_POSSIBLE);
        due("read off to the right", readText(x, "19,3:r"), NOT_POSSIBLE);
        due("read off above", readText(x, "3,11:u"), NOT_POSSIBLE);
        due("read off below", readText(x, "3,0:d"), NOT_POSSIBLE);
        due("read back", readText(x, "3,3:rl"), NOT_POSSIBLE);
        due("read in a ring", readText(x, "3,3:ruld"), NOT_POSSIBLE);
        due("pad is kept", x.count(16), 8);
        due("river is kept", x.count(0), 20);
        due("nothing recorded", x.count(17), 0);
        due("read of 150 cells", readText(x, FULL), 150);
        due("pad is empty", x.count(16), 0);
        due("recorded", x.count(17), 1);
        dueCourse(x, 0, 0, 0, 1, 0);
        dueCourse(x, 148, 11, 7, 10, 7);
        due("read of two cells", readText(x, "19,11:d"), 2);
        dueCourse(x, 0, 19, 11, 19, 10);
        due("course(0, 2)", x.course(0, 2), DOWN);
        due("old course is gone", x.cell(0, 0, 0), NONE);
        due("read", readText(x, "10,0:u2l3"), 6);
        dueCourse(x, 0, 10, 0, 10, 1, 10, 2, 9, 2, 8, 2, 7, 2);
    }

    private static void readResets() {
        start("promise 3, the rest");
        OxbowReaches x = river(LOOP);
        x.set(0, 3);
        x.set(3, 50);
        x.dike(0, 0, true);
        x.flood(0, true);
        x.flood(7, true);
        due("pass(1)", x.pass(1), 1);
        x.save(1);
        putText(x, HILL);
        x.pass(1);
        due("read", x.read(), 20);
        dueCounts(x, 0, 20, 1, 0, 0, 0, 0, 0, 0, 0, 0, 1461, 0, 3, 6, 3, 50, 0, 6);
        due("dike is gone", x.cell(0, 0, 2), 0);
        due("oxbow is gone", x.cell(5, 6, 3), NONE);
        due("flood is gone", x.isFlood(0), 0);
        due("flood is gone", x.isFlood(7), 0);
        due("slot stays", x.restore(1), 12);
        due("undo", x.undo(), 5);
        due("undo", x.undo(), 4);
        due("year of before", x.count(5), 2);
        due("pad is not undone", x.count(16), 0);

        x = river(LOOP);
        x.pass(2);
        dueNeck(x, 0, 5, 12, 2);
        readText(x, LOOP);
        dueNeck(x, 0, 5, 12, 0);
        due("wear", x.cell(5, 9, 1), 0);
    }

    private static void dike() {
        start("promise 4");
        OxbowReaches x = new OxbowReaches();
        due("dike(-1, 0)", x.dike(-1, 0, true), NO_SUCH);
        due("dike(20, 0)", x.dike(20, 0, true), NO_SUCH);
        due("dike(0, -1)", x.dike(0, -1, true), NO_SUCH);
        due("dike(0, 12)", x.dike(0, 12, false), NO_SUCH);
        due("dike in the course", x.dike(3, 6, true), NOT_POSSIBLE);
        due("no dike in the course", x.dike(3, 6, false), NOT_POSSIBLE);
        due("none to take away", x.dike(3, 5, false), NOT_POSSIBLE);
        due("nothing recorded", x.count(17), 0);
        due("first dike", x.dike(0, 0, true), 1);
        due("second dike", x.dike(19, 11, true), 2);
        due("built already", x.dike(19, 11, true), NOT_POSSIBLE);
        due("recorded", x.count(17), 2);
        due("take away", x.dike(0, 0, false), 1);
        due("cell", x.cell(0, 0, 2), 0);
        due("cell", x.cell(19, 11, 2), 1);
        due("count(7)", x.count(7), 1);

        x = river(LOOP);
        x.cut(0);
        due("dike in an oxbow", x.dike(5, 6, true), 1);
        due("still an oxbow", x.cell(5, 6, 3), 0);
    }

    private static void flood() {
        start("promise 5");
        OxbowReaches x = new OxbowReaches();
        x.pass(3);
        due("flood(2)", x.flood(2, true), BAD_VALUE);
        due("flood(-1)", x.flood(-1, true), BAD_VALUE);
        due("flood(1000)", x.flood(1000, true), BAD_VALUE);
        due("none to take away", x.flood(3, false), NOT_POSSIBLE);
        due("nothing recorded", x.count(17), 1);
        due("flood(3)", x.flood(3, true), 1);
        due("is so already", x.flood(3, true), NOT_POSSIBLE);
        due("flood(999)", x.flood(999, true), 2);
        x.pass(1);
        due("one that is over", x.flood(3, false), BAD_VALUE);
        for (int k = 3; k <= 8; k++) {
            due("flood", x.flood(10 * k, true), k);
        }
        due("flood, a 9th", x.flood(5, true), TOO_MANY);
        due("already comes first", x.flood(999, true), NOT_POSSIBLE);
        due("range comes first", x.flood(3, true), BAD_VALUE);
        due("take one away of 8", x.flood(40, false), 7);
        due("isFlood(40)", x.isFlood(40), 0);
        due("isFlood(80)", x.isFlood(80), 1);
        due("isFlood(3)", x.isFlood(3), 1);
        due("there is room again", x.flood(5, true), 8);
        due("count(6)", x.count(6), 8);
    }

    private static void cut() {
        start("promise 6");
        OxbowReaches x = river(LOOP);
        due("cut(-1)", x.cut(-1), NO_SUCH);
        due("cut(3)", x.cut(3), NO_SUCH);
        due("cut(MAX)", x.cut(Integer.MAX_VALUE), NO_SUCH);
        due("nothing recorded", x.count(17), 1);
        due("cut(1)", x.cut(1), 14);
        due("recorded", x.count(17), 2);
        dueCourse(x, 5, 5, 5, 5, 6, 6, 6, 6, 5);
        dueOxbow(x, 0, 4, 0, 5, 7);
        due("number of a cell that left", x.cell(5, 7, 0), NONE);
        due("its oxbow", x.cell(6, 8, 3), 0);
        due("count(8)", x.count(8), 1);
        due("count(5)", x.count(5), 0);
        dueNeck(x, 0, 5, 8, 0);
        due("count(3)", x.count(3), 1);
        due("cut(0)", x.cut(0), 12);
        dueOxbow(x, 1, 2, 0, 5, 6);
        due("no neck is left", x.cut(0), NO_SUCH);
        dueCounts(x, 8, 2);

        x = river(FULL);
        dueNeck(x, 0, 0, 39, 0);
        due("cut of the longest course", x.cut(0), 112);
        dueCourse(x, 0, 0, 0, 0, 1, 0, 2, 1, 2);
        dueOxbow(x, 0, 38, 0, 1, 0);
    }

    private static void passErrors() {
        start("promise 7, errors");
        OxbowReaches x = new OxbowReaches();
        due("pass(0)", x.pass(0), BAD_VALUE);
        due("pass(-1)", x.pass(-1), BAD_VALUE);
        due("pass(51)", x.pass(51), BAD_VALUE);
        due("pass(MAX)", x.pass(Integer.MAX_VALUE), BAD_VALUE);
        due("nothing recorded", x.count(17), 0);
        for (int k = 0; k < 19; k++) {
            due("pass(50)", x.pass(50), 0);
        }
        due("count(5)", x.count(5), 950);
        due("pass(50) is too far", x.pass(50), TOO_MANY);
        due("pass(51)", x.pass(51), BAD_VALUE);
        due("pass(49)", x.pass(49), 0);
        due("count(5)", x.count(5), 999);
        due("pass(1)", x.pass(1), TOO_MANY);
        due("flood(999)", x.flood(999, true), 1);
    }

    private static void passWears() {
        start("promise 7, wear");
        OxbowReaches x = river(FACING);
        x.set(1, 60);
        x.dike(9, 5, true);
        x.pass(1);
        due("wear of two banks", x.cell(4, 5, 1), 4);
        due("wear of one", x.cell(6, 1, 1), 2);
        due("a firm bend does not wear", x.cell(9, 4, 1), 0);
        due("the sum", x.count(11), 3 * 4 + 4 * 2 + 4 * 2);
        x.flood(1, true);
        x.pass(1);
        due("in a flood", x.cell(4, 5, 1), 12);
        due("in a flood", x.cell(6, 1, 1), 6);
        x.pass(1);
        due("after it", x.cell(6, 1, 1), 8);

        x = river("3,0:l2u2r2");
        x.pass(1);
        due("the sum has the corner's wear, too", x.count(11), 6);

        x = river(HILL);
        x.set(1, 60);
        x.set(0, 9);
        x.pass(6);
        due("worn, not yet enough", x.cell(5, 9, 1), 54);
        x.flood(6, true);
        x.set(1, 59);
        due("can not grow", x.bend(0, 5), 0);
        x.pass(1);
        due("grown, wear is 0 again", x.cell(5, 9, 1), 0);
    }

    private static void passGrows() {
        start("promise 7, growing");
        OxbowReaches x = river(HILL);
        x.pass(2);
        due("not yet", x.count(9), 0);
        due("wear", x.cell(8, 9, 1), 4);
        x.pass(1);
        due("count(9)", x.count(9), 1);
        due("count(0)", x.count(0), 22);
        dueCourse(x, 7, 5, 7, 5, 8, 5, 9, 6, 9, 7, 9, 8, 9, 8, 8, 8, 7);
        due("a cell that left", x.cell(6, 8, 0), NONE);
        due("is no oxbow", x.cell(6, 8, 3), NONE);
        due("a cell that came", x.cell(8, 9, 0), 12);
        due("its wear", x.cell(8, 9, 1), 0);
        dueBend(x, 0, 9, 12, UP, 0, 0, 0);
        due("wear", x.count(11), 0);

        // The bank is worn enough, but for one cell.
        x = river(HILL);
        x.pass(2);
        readText(x, HILL);
        x.dike(6, 9, true);
        x.pass(5);
        due("a dike keeps it", x.count(9), 0);
        due("nothing wears", x.count(11), 0);
        x.dike(6, 9, false);
        x.pass(3);
        due("without it", x.count(9), 1);
    }

    private static void passGrowsAlongTheCourse() {
        start("promise 7, growing along the course");
        OxbowReaches x = river(FACING);
        x.set(0, 9);
        due("count(0)", x.count(0), 30);
        due("count(1)", x.count(1), 5);
        x.pass(1);
        // The third one begins ahead of the last cell of the second one then; the first takes the fifth one's bank.
        due("count(9)", x.count(9), 3);
        due("count(0)", x.count(0), 36);
        dueCourse(x, 5, 3, 4, 3, 5, 4, 5, 5, 5, 5, 4, 5, 3, 5, 2, 5, 1);
        due("the third has worn, but not grown", x.cell(9, 5, 1), 9);
        due("wear where the second grew", x.cell(8, 1, 1), 0);
        due("the fourth has grown", x.cell(5, 9, 0), 26);
        due("count(2)", x.count(2), 2);
    }

    private static void passStopsAtTheLongestCourse() {
        start("promise 7, the longest course");
        String rows = "1,0:r9r8ul9l8ur9r8ul9l8ur9r8ul9l8ur9r8ul9l8";
        OxbowReaches x = river(rows);
        due("count(0)", x.count(0), 144);
        due("count(1)", x.count(1), 7);
        x.set(0, 9);
        x.set(1, 1);
        x.set(2, 20);
        x.pass(1);
        due("grown at 144, 146 and 148", x.count(9), 3);
        due("count(0)", x.count(0), 150);
        dueBend(x, 3, 77, 78, LEFT, 0, 9, 0);
        due("the last cell", x.cell(1, 7, 0), 149);
        x.pass(10);
        due("wear is 99", x.cell(0, 3, 1), 99);
        x.pass(1);
        due("wear is at most 99", x.cell(0, 3, 1), 99);
        dueBend(x, 3, 77, 78, LEFT, 0, 99, 0);
        due("count(9)", x.count(9), 3);

        x = river(rows + "l");
        x.set(1, 1);
        x.set(2, 20);
        x.pass(3);
        due("not grown at 149", x.count(9), 2);
        due("count(0)", x.count(0), 149);
    }

    private static void passCuts() {
        start("promise 7, cuts");
        OxbowReaches x = river(LOOP);
        due("pass(2)", x.pass(2), 0);
        dueNeck(x, 0, 5, 12, 2);
        due("pass(1)", x.pass(1), 1);
        due("count(0)", x.count(0), 12);
        due("count(8)", x.count(8), 1);
        dueOxbow(x, 0, 8, 1, 5, 6);
        due("a cell that came and was cut off in that year", x.cell(6, 9, 3), 0);
        due("count(3)", x.count(3), 0);
        due("the pair of the neck is of the course", x.cell(6, 5, 0), 6);

        x = river(LOOP);
        x.set(2, 20);
        x.set(1, 60);
        due("pass(19)", x.pass(19), 0);
        due("pass(1)", x.pass(1), 1);

        x = river(LOOP);
        x.set(2, 1);
        due("at once", x.pass(1), 1);
        dueOxbow(x, 0, 6, 1, 5, 6);
    }

    private static void passCutsTheWidestFirst() {
        start("promise 7, the order of the cuts");
        OxbowReaches x = river(TWINS);
        due("count(3)", x.count(3), 4);
        x.set(1, 60);
        x.set(2, 1);
        due("pass(1)", x.pass(1), 2);
        dueOxbow(x, 0, 4, 1, 2, 6);
        dueOxbow(x, 1, 4, 1, 6, 6);
        due("count(0)", x.count(0), 10);

        x = river("0,5:r2urdr3u2rd2r2");
        x.set(1, 60);
        x.set(2, 1);
        due("pass(1)", x.pass(1), 2);
        dueOxbow(x, 0, 4, 1, 6, 6);
        dueOxbow(x, 1, 2, 1, 2, 6);

        // The wide necks below come a year later than the narrow one at (2, 9), (1, 9): only this one is due.
        x = river("0,5:r2u2r2d2r2u4l4uldl");
        x.dike(5, 4, true);
        x.dike(7, 7, true);
        x.set(0, 3);
        x.set(2, 2);
        due("pass(2)", x.pass(2), 1);
        dueOxbow(x, 0, 4, 1, 2, 10);
        due("count(3)", x.count(3), 3);
        due("age", x.neck(0, 2), 1);
        due("one of the three cuts off the others", x.pass(1), 1);
        due("only the cuts of this year", x.count(8), 2);
        dueOxbow(x, 1, 14, 1, 3, 8);
    }

    private static void passInFlood() {
        start("promise 7, floods");
        OxbowReaches x = river(LOOP);
        x.set(2, 20);
        x.flood(0, true);
        due("pass(1)", x.pass(1), 1);
        dueOxbow(x, 0, 6, 1, 5, 6);
        due("count(0)", x.count(0), 12);

        x = river(LOOP);
        x.flood(1, true);
        due("not yet the flood", x.pass(1), 0);
        due("the flood", x.pass(1), 1);
        dueOxbow(x, 0, 8, 1, 5, 6);
        due("year", x.count(5), 2);
        due("flood years stay", x.count(6), 1);
    }

    private static void passSilts() {
        start("promise 7, silt");
        OxbowReaches x = river(LOOP);
        x.cut(0);
        dueOxbow(x, 0, 6, 0, 5, 6);
        x.pass(4);
        dueOxbow(x, 0, 6, 4, 5, 6);
        x.pass(1);
        due("count(4)", x.count(4), 0);
        due("cell(5, 6, 3)", x.cell(5, 6, 3), NONE);

        x = river(LOOP);
        x.set(3, 1);
        x.flood(0, true);
        due("pass(1)", x.pass(1), 1);
        due("gone in the year in which it came", x.count(4), 0);

        x = river(TWINS);
        x.set(1, 60);
        x.set(2, 20);
        x.cut(0);
        x.pass(1);
        x.cut(0);
        x.set(3, 2);
        x.pass(1);
        due("the first went", x.count(4), 1);
        dueOxbow(x, 0, 4, 1, 6, 6);
        due("the other one moved up", x.cell(7, 7, 3), 0);
        due("cells of the first", x.cell(2, 6, 3), NONE);
        x.pass(1);
        due("count(4)", x.count(4), 0);
    }

    private static void passTakesBack() {
        start("promise 7, an oxbow that is taken back");
        OxbowReaches x = river("0,3:r4u2r2u3rd3r2d2r4");
        due("cut(0)", x.cut(0), 18);
        dueBend(x, 0, 6, 11, UP, 0, 0, 0);
        x.pass(1);
        due("wear of an oxbow's cell", x.cell(6, 6, 1), 99);
        due("wear of one that is not in the bank", x.cell(6, 7, 1), 0);
        due("sum", x.count(11), 4 * 2 + 2 * 99);
        due("least", x.bend(0, 4), 2);
        x.pass(1);
        due("wear of an oxbow's cell", x.cell(7, 6, 1), 99);
        due("count(4)", x.count(4), 1);
        x.pass(1);
        due("count(9)", x.count(9), 1);
        due("count(4)", x.count(4), 0);
        due("no oxbow", x.cell(6, 8, 3), NONE);
        due("in the course", x.cell(6, 6, 0), 9);
        due("sum", x.count(11), 0);

        x = river(LOOP);
        x.set(1, 60);
        x.set(3, 50);
        x.cut(1);
        due("all of its bank is an oxbow", x.bend(0, 4), 0);
        due("taken(6, 7)", x.taken(6, 7), 0);
        x.pass(1);
        due("count(9)", x.count(9), 1);
        due("count(4)", x.count(4), 0);
    }

    private static void oxbowLimit() {
        start("oxbows, the 13th");
        OxbowReaches x = river("0,1:r2u9rd9r2u9rd9r2");
        due("count(3)", x.count(3), 18);
        for (int k = 8; k >= 0; k--) {
            x.cut(k);
        }
        for (int k = 8; k >= 6; k--) {
            x.cut(k);
        }
        due("count(4)", x.count(4), 12);
        dueOxbow(x, 0, 2, 0, 2, 10);
        dueOxbow(x, 11, 2, 0, 5, 8);
        due("oxbow(12, 0)", x.oxbow(12, 0), NO_SUCH);
        x.cut(5);
        due("count(4)", x.count(4), 12);
        dueOxbow(x, 0, 2, 0, 2, 9);
        dueOxbow(x, 11, 2, 0, 5, 7);
        due("the first went", x.cell(2, 10, 3), NONE);
        due("the second moved up", x.cell(3, 9, 3), 0);
        due("count(8)", x.count(8), 13);
    }

    private static void cell() {
        start("promise 8");
        OxbowReaches x = river(LOOP);
        due("cell(-1, 0, 0)", x.cell(-1, 0, 0), NO_SUCH);
        due("cell(20, 0, 9)", x.cell(20, 0, 9), NO_SUCH);
        due("cell(0, -1, 0)", x.cell(0, -1, 0), NO_SUCH);
        due("cell(0, 12, -1)", x.cell(0, 12, -1), NO_SUCH);
        due("cell(MIN, MAX, 0)", x.cell(Integer.MIN_VALUE, Integer.MAX_VALUE, 0), NO_SUCH);
        due("cell(0, 0, -1)", x.cell(0, 0, -1), BAD_VALUE);
        due("cell(0, 0, 4)", x.cell(0, 0, 4), BAD_VALUE);
        due("cell(0, 5, 0)", x.cell(0, 5, 0), 0);
        due("cell(6, 8, 0)", x.cell(6, 8, 0), 9);
        due("cell(5, 9, 0)", x.cell(5, 9, 0), NONE);
        x.pass(2);
        due("cell(5, 9, 1)", x.cell(5, 9, 1), 4);
        due("cell(4, 9, 1)", x.cell(4, 9, 1), 0);
        x.dike(6, 9, true);
        due("cell(6, 9, 2)", x.cell(6, 9, 2), 1);
        due("wear under a dike stays", x.cell(6, 9, 1), 4);
        due("cell(5, 9, 2)", x.cell(5, 9, 2), 0);
        x.cut(2);
        due("cell(6, 8, 3)", x.cell(6, 8, 3), 0);
        due("cell(6, 7, 3)", x.cell(6, 7, 3), NONE);
    }

    private static void course() {
        start("promise 9");
        OxbowReaches x = river("10,5:uldl");
        int[] ways = {UP, LEFT, DOWN, LEFT, NONE};
        for (int k = 0; k < ways.length; k++) {
            due("course(way)", x.course(k, 2), ways[k]);
        }
        dueCourse(x, 0, 10, 5, 10, 6, 9, 6, 9, 5, 8, 5);
        due("course(-1, 0)", x.course(-1, 0), NO_SUCH);
        due("course(5, 0)", x.course(5, 0), NO_SUCH);
        due("course(5, 7)", x.course(5, 7), NO_SUCH);
        due("course(150, 0)", x.course(150, 0), NO_SUCH);
        due("course(MAX, 0)", x.course(Integer.MAX_VALUE, 0), NO_SUCH);
        due("course(0, -1)", x.course(0, -1), BAD_VALUE);
        due("course(0, 3)", x.course(0, 3), BAD_VALUE);
    }

    private static void bend() {
        start("promise 10");
        OxbowReaches x = river(FACING);
        dueBend(x, 0, 5, 7, UP, 0, 0, 0);
        dueBend(x, 1, 9, 12, DOWN, 0, 0, 0);
        dueBend(x, 2, 12, 18, RIGHT, 0, 0, 0);
        dueBend(x, 3, 18, 21, UP, 0, 0, 0);
        dueBend(x, 4, 23, 25, DOWN, 0, 0, 0);
        due("bend(-1, 0)", x.bend(-1, 0), NO_SUCH);
        due("bend(5, 0)", x.bend(5, 0), NO_SUCH);
        due("bend(5, 6)", x.bend(5, 6), NO_SUCH);
        due("bend(MAX, 0)", x.bend(Integer.MAX_VALUE, 0), NO_SUCH);
        due("bend(0, -1)", x.bend(0, -1), BAD_VALUE);
        due("bend(4, 6)", x.bend(4, 6), BAD_VALUE);
        x.set(0, 3);
        x.set(1, 7);
        x.pass(1);
        dueBend(x, 0, 5, 7, UP, 0, 6, 0);
        x.set(1, 6);
        dueBend(x, 0, 5, 7, UP, 0, 6, 1);
        dueBend(x, 1, 9, 12, DOWN, 0, 3, 0);
        x.dike(4, 5, true);
        dueBend(x, 0, 5, 7, UP, 1, NONE, 0);
        dueBend(x, 4, 23, 25, DOWN, 1, NONE, 0);
        x.dike(4, 5, false);
        dueBend(x, 0, 5, 7, UP, 0, 6, 1);
    }

    private static void bendKinds() {
        start("promise 10, kinds of bends");
        dueBend(river("0,5:r2d2r2u2r2"), 0, 4, 6, DOWN, 0, 0, 0);
        dueBend(river("5,0:u2r2u2l2u2"), 0, 4, 6, RIGHT, 0, 0, 0);
        dueBend(river("5,0:u2l2u2r2u2"), 0, 4, 6, LEFT, 0, 0, 0);
        dueBend(river("0,5:urd"), 0, 1, 2, UP, 0, 0, 0);
        due("no step behind", river("0,5:ur").count(1), 0);
        due("no step ahead", river("0,5:rd").count(1), 0);
        due("ahead and behind are alike", river("0,5:ur3u").count(1), 0);
        dueBend(river("3,9:u2r2d2"), 0, 2, 4, UP, 1, NONE, 0);
        dueBend(river("3,2:d2r2u2"), 0, 2, 4, DOWN, 1, NONE, 0);
        dueBend(river("2,3:l2u2r2"), 0, 2, 4, LEFT, 1, NONE, 0);
        dueBend(river("17,3:r2u2l2"), 0, 2, 4, RIGHT, 1, NONE, 0);
        OxbowReaches x = river(HILL);
        x.dike(5, 9, true);
        dueBend(x, 0, 8, 11, UP, 1, NONE, 0);
        x.dike(5, 9, false);
        x.dike(8, 9, true);
        dueBend(x, 0, 8, 11, UP, 1, NONE, 0);
        x = river("0,2:r3u2r2d2r3u6l4d2lu2l3");
        x.pass(1);
        due("least wear at the last cell", x.bend(0, 4), 2);
        x = river("0,2:r3u2r2d2r3u6l3d2lu2l3");
        x.pass(1);
        due("least wear at the first cell", x.bend(0, 4), 2);
        x = river("0,5:r2u2r2d2r2u3l6");
        dueBend(x, 0, 4, 6, UP, 1, NONE, 0);
        due("count(1)", x.count(1), 3);
        due("count(2)", x.count(2), 1);
    }

    private static void neck() {
        start("promise 11");
        OxbowReaches x = river("5,5:rul2d2r2");
        x.set(1, 60);
        int[][] necks = {{0, 3}, {0, 5}, {0, 7}, {1, 8}};
        due("count(3)", x.count(3), 4);
        for (int k = 0; k < 4; k++) {
            dueNeck(x, k, necks[k][0], necks[k][1], 0);
        }
        due("neck(-1, 0)", x.neck(-1, 0), NO_SUCH);
        due("neck(4, 0)", x.neck(4, 0), NO_SUCH);
        due("neck(4, 3)", x.neck(4, 3), NO_SUCH);
        due("neck(MAX, 0)", x.neck(Integer.MAX_VALUE, 0), NO_SUCH);
        due("neck(0, -1)", x.neck(0, -1), BAD_VALUE);
        due("neck(0, 3)", x.neck(0, 3), BAD_VALUE);
        x.pass(2);
        for (int k = 0; k < 4; k++) {
            dueNeck(x, k, necks[k][0], necks[k][1], 2);
        }

        x = river(LOOP);
        x.pass(2);
        x.cut(2);
        dueNeck(x, 0, 5, 10, 2);
        dueNeck(x, 1, 6, 9, 2);
        x.set(2, 20);
        // Without it the river takes the oxbow back at once.
        x.dike(5, 8, true);
        x.pass(1);
        dueNeck(x, 0, 5, 10, 3);
    }

    private static void oxbow() {
        start("promise 12");
        OxbowReaches x = river(LOOP);
        due("oxbow(0, 0)", x.oxbow(0, 0), NO_SUCH);
        due("oxbow(0, 4)", x.oxbow(0, 4), NO_SUCH);
        x.cut(1);
        x.pass(0);
        dueOxbow(x, 0, 4, 0, 5, 7);
        due("oxbow(-1, 0)", x.oxbow(-1, 0), NO_SUCH);
        due("oxbow(1, 0)", x.oxbow(1, 0), NO_SUCH);
        due("oxbow(MAX, 0)", x.oxbow(Integer.MAX_VALUE, 0), NO_SUCH);
        due("oxbow(0, -1)", x.oxbow(0, -1), BAD_VALUE);
        due("oxbow(0, 4)", x.oxbow(0, 4), BAD_VALUE);
        // The first cell along the course need not be the lowest one, nor the leftmost one.
        x = river("11,5:l3d3lu3l3");
        x.cut(0);
        dueOxbow(x, 0, 6, 0, 8, 4);
    }

    private static void count() {
        start("promise 13");
        OxbowReaches x = river(HILL);
        due("count(-1)", x.count(-1), BAD_VALUE);
        due("count(18)", x.count(18), BAD_VALUE);
        due("count(MIN)", x.count(Integer.MIN_VALUE), BAD_VALUE);
        due("count(10) is rounded down", x.count(10), 1461);
        due("count(10) of columns and rows", river("0,0:r3u4r2").count(10), 1000);
        due("count(10) to the left and down", river("9,9:ul3d4").count(10), 1333);
        due("count(10) of a ring", river("3,3:r9u5l9d4").count(10), 27000);
        x.put(packed("0,5:r5u3"));
        due("count(16)", x.count(16), 8);
        due("count(17)", x.count(17), 1);
        x.set(0, 7);
        x.set(1, 8);
        x.set(2, 9);
        x.set(3, 10);
        dueCounts(x, 12, 7, 8, 9, 10, 8, 5);
    }

    private static void isFlood() {
        start("promise 14");
        OxbowReaches x = new OxbowReaches();
        x.flood(0, true);
        x.flood(999, true);
        due("isFlood(-1)", x.isFlood(-1), BAD_VALUE);
        due("isFlood(1000)", x.isFlood(1000), BAD_VALUE);
        due("isFlood(0)", x.isFlood(0), 1);
        due("isFlood(1)", x.isFlood(1), 0);
        due("isFlood(999)", x.isFlood(999), 1);
        x.pass(2);
        due("isFlood(0) of a year that is over", x.isFlood(0), 1);
    }

    private static void ifPassed() {
        start("promise 15");
        OxbowReaches x = river(LOOP);
        due("ifPassed(0, 0)", x.ifPassed(0, 0), BAD_VALUE);
        due("ifPassed(51, 0)", x.ifPassed(51, 0), BAD_VALUE);
        due("ifPassed(1, -1)", x.ifPassed(1, -1), BAD_VALUE);
        due("ifPassed(1, 4)", x.ifPassed(1, 4), BAD_VALUE);
        int[][] wanted = {{0, 0, 18, 0}, {0, 0, 18, 0}, {1, 1, 12, 1}, {1, 1, 12, 1}, {1, 1, 12, 1}, {1, 1, 12, 1},
            {1, 1, 12, 0}};
        for (int years = 1; years <= wanted.length; years++) {
            for (int what = 0; what < 4; what++) {
                due("ifPassed(" + years + ", " + what + ")", x.ifPassed(years, what), wanted[years - 1][what]);
            }
        }
        dueCounts(x, 0, 18, 1, 0, 3, 0, 0, 0, 0, 0, 0);
        due("wear", x.count(11), 0);
        due("changes", x.count(17), 1);
        x.pass(3);
        due("only what comes is counted", x.ifPassed(5, 0), 0);
        due("only what comes is counted", x.ifPassed(5, 1), 0);
        due("the latest year", lateRiver().ifPassed(50, 1), 3);
    }

    /** The hill at the year 999, and nothing that keeps it from growing. */
    private static OxbowReaches lateRiver() {
        OxbowReaches x = river(HILL);
        x.dike(6, 9, true);
        for (int k = 0; k < 19; k++) {
            x.pass(50);
        }
        x.pass(49);
        x.dike(6, 9, false);
        due("year", x.count(5), 999);
        return x;
    }

    /** A bend that grows below another reach of the river; dikes hold the other bends. */
    private static OxbowReaches reachBelow() {
        OxbowReaches x = river("0,5:r2u2r2d2r2u4l6");
        x.dike(5, 4, true);
        x.dike(7, 7, true);
        return x;
    }

    private static void nextCut() {
        start("promise 16");
        OxbowReaches x = new OxbowReaches();
        due("nextCut(-1)", x.nextCut(-1), BAD_VALUE);
        due("nextCut(2)", x.nextCut(2), BAD_VALUE);
        due("nextCut(0)", x.nextCut(0), NONE);
        due("nextCut(1)", x.nextCut(1), NONE);
        x = river(LOOP);
        due("nextCut(0)", x.nextCut(0), 2);
        due("nextCut(1)", x.nextCut(1), 8);
        x.flood(1, true);
        due("nextCut(0)", x.nextCut(0), 1);
        x.flood(0, true);
        due("nextCut(0)", x.nextCut(0), 0);
        due("nextCut(1)", x.nextCut(1), 6);
        due("nothing changes", x.count(0), 18);
        x = river(TWINS);
        x.flood(0, true);
        due("all cuts of the year", x.nextCut(1), 8);

        x = reachBelow();
        x.set(0, 1);
        x.set(1, 60);
        x.set(2, 1);
        due("the last of 60 years", x.nextCut(0), 59);
        due("the last of 60 years", x.nextCut(1), 14);
        x.set(2, 2);
        due("not in 60 years", x.nextCut(0), NONE);
        due("not in 60 years", x.nextCut(1), NONE);
        x.pass(1);
        due("a year later", x.nextCut(0), 59);

        x = reachBelow();
        x.dike(3, 8, true);
        for (int k = 0; k < 19; k++) {
            x.pass(50);
        }
        x.pass(49);
        x.dike(3, 8, false);
        due("beyond the year 999", x.nextCut(0), 4);
        due("year", x.count(5), 999);
    }

    private static void taken() {
        start("promise 17");
        OxbowReaches x = river(HILL);
        due("taken(-1, 0)", x.taken(-1, 0), NO_SUCH);
        due("taken(20, 0)", x.taken(20, 0), NO_SUCH);
        due("taken(0, -1)", x.taken(0, -1), NO_SUCH);
        due("taken(0, 12)", x.taken(0, 12), NO_SUCH);
        due("taken(5, 8)", x.taken(5, 8), NONE);
        due("taken(4, 9)", x.taken(4, 9), NONE);
        due("taken(8, 9)", x.taken(8, 9), 2);
        due("taken(6, 10)", x.taken(6, 10), 5);
        due("taken(7, 11)", x.taken(7, 11), 8);
        x.pass(2);
        due("taken(8, 9)", x.taken(8, 9), 0);
        due("taken(6, 10)", x.taken(6, 10), 3);
        due("nothing changes", x.count(9), 0);
        due("taken, and cut off in that year", river(LOOP).taken(5, 9), 2);
        due("beyond the year 999", lateRiver().taken(7, 11), 8);

        x = river(HILL);
        x.set(0, 1);
        x.set(1, 31);
        due("not in 60 years", x.taken(5, 10), NONE);
        due("taken(5, 9)", x.taken(5, 9), 30);
        x.flood(0, true);
        due("not in 60 years", x.taken(5, 10), NONE);
        x.flood(1, true);
        due("the last of 60 years", x.taken(5, 10), 59);
    }

    private static void put() {
        start("promise 18");
        OxbowReaches x = new OxbowReaches();
        due("put(0)", x.put(0), BAD_VALUE);
        due("put(' ')", x.put(32), BAD_VALUE);
        due("put(127)", x.put(127), BAD_VALUE);
        due("put(255)", x.put(255), BAD_VALUE);
        due("put(-1)", x.put(-1L), BAD_VALUE);
        due("put(MIN)", x.put(Long.MIN_VALUE), BAD_VALUE);
        due("put(256 * 'a')", x.put(256L * 'a'), BAD_VALUE);
        due("put with a gap", x.put(65536L * 'a' + 'a'), BAD_VALUE);
        due("put with a high bit", x.put(packed("aaaaaa") | Long.MIN_VALUE), BAD_VALUE);
        due("put with a wrong one in it", x.put(packed("aa aa")), BAD_VALUE);
        due("put with a wrong first one", x.put(packed(" aa")), BAD_VALUE);
        due("put of 8 with a wrong first one", x.put(packed("\u0080aaaaaaa")), BAD_VALUE);
        due("nothing is there", x.count(16), 0);
        due("put(33)", x.put(33), 1);
        due("put(126)", x.put(126), 2);
        due("put of 2", x.put(packed("ab")), 4);
        due("put of 8", x.put(packed("~aaaaaa~")), 12);
        due("no change is recorded", x.count(17), 0);
        for (int length = 20; length <= 60; length += 8) {
            due("put of 8", x.put(packed("abcdefgh")), length);
        }
        due("put of 5 is too long", x.put(packed("abcde")), TOO_MANY);
        due("nothing of it is there", x.count(16), 60);
        due("a wrong one comes first", x.put(packed("ab de")), BAD_VALUE);
        due("put of 4", x.put(packed("abcd")), 64);
        due("put of 1", x.put('a'), TOO_MANY);
        due("wipe", x.wipe(), 64);
        x.put(packed("1,2:"));
        x.put(packed("r3u"));
        due("the order of the characters", x.read(), 5);
        dueCourse(x, 0, 1, 2, 2, 2, 3, 2, 4, 2, 4, 3);
    }

    private static void wipe() {
        start("promise 19");
        OxbowReaches x = new OxbowReaches();
        due("wipe of nothing", x.wipe(), 0);
        x.put(packed("1,2"));
        due("wipe", x.wipe(), 3);
        due("wipe again", x.wipe(), 0);
        due("fault", x.fault(), 0);
        due("no change is recorded", x.count(17), 0);
        x.put(packed("0,0:u"));
        due("fault of what comes behind it", x.fault(), NONE);
    }

    private static void fault() {
        start("promise 20");
        Object[][] cases = {
            {"", 0}, {"r", 0}, {",", 0}, {"-1,0:r", 0}, {"0", 1}, {"1", 1}, {"19", 2}, {"20,0:r", 1}, {"190,0:r", 2},
            {"00,0:r", 1}, {"05,0:r", 1}, {"0,", 2}, {"0:", 1}, {"0,0", 3}, {"0,11", 4}, {"0,12:r", 3}, {"0,20:r", 3},
            {"0,110:r", 4}, {"0,01:r", 3}, {"0,r", 2}, {"0,0,", 3}, {"0,0:", 4}, {"0,0:2", 4}, {"0,0:r", NONE},
            {"19,11:l", NONE}, {"10,10:d", NONE}, {"0,0:r1", 5}, {"0,0:r0", 5}, {"0,0:r2", NONE}, {"0,0:r9", NONE},
            {"0,0:r22", 6}, {"0,0:rr", NONE}, {"0,0:r2u2l2d2", NONE}, {"0,0:R", 4}, {"0,0:r,", 5}, {"0,0:r2:", 6},
            {"0,0:ruldx", 8}, {"2,2:l9", NONE}, {"9,9:u3d3", NONE},
        };
        for (Object[] one : cases) {
            OxbowReaches x = new OxbowReaches();
            putText(x, (String) one[0]);
            due("fault of '" + one[0] + "'", x.fault(), (Integer) one[1]);
            due("the pad stays", x.count(16), ((String) one[0]).length());
        }
        OxbowReaches x = new OxbowReaches();
        putText(x, "10,10:" + "r".repeat(58));
        due("fault of 64 characters", x.fault(), NONE);
    }

    private static void undo() {
        start("promise 21");
        OxbowReaches x = new OxbowReaches();
        due("undo of nothing", x.undo(), NOT_POSSIBLE);
        putText(x, LOOP);
        x.read();
        x.flood(4, true);
        x.dike(0, 0, true);
        x.pass(3);
        x.set(3, 6);
        putText(x, "1,1:r");
        due("count(17)", x.count(17), 5);
        due("undo set", x.undo(), 4);
        due("SILT", x.count(15), 5);
        due("undo pass", x.undo(), 3);
        dueCounts(x, 0, 18, 1, 0, 3, 0, 0, 1, 1, 0, 0);
        due("wear", x.count(11), 0);
        dueNeck(x, 0, 5, 12, 0);
        due("undo dike", x.undo(), 2);
        due("dikes", x.count(7), 0);
        due("undo flood", x.undo(), 1);
        due("isFlood(4)", x.isFlood(4), 0);
        due("undo read", x.undo(), 0);
        due("count(0)", x.count(0), 20);
        due("the pad stays", x.count(16), 5);
        due("undo", x.undo(), NOT_POSSIBLE);

        for (int k = 1; k <= 8; k++) {
            x.set(1, k);
        }
        due("count(17) is at most 6", x.count(17), 6);
        for (int k = 5; k >= 0; k--) {
            due("undo", x.undo(), k);
            due("HARD", x.count(13), k + 2);
        }
        due("undo", x.undo(), NOT_POSSIBLE);

        readText(x, LOOP);
        x.cut(0);
        x.save(0);
        x.undo();
        due("undo cut", x.count(0), 18);
        due("no oxbow", x.cell(5, 6, 3), NONE);
        due("restore", x.restore(0), 12);
        due("undo restore", x.undo(), 1);
        due("count(0)", x.count(0), 18);
        due("the slot stays", x.restore(0), 12);
    }

    private static void save() {
        start("promise 22");
        OxbowReaches x = river(LOOP);
        due("save(-1)", x.save(-1), BAD_VALUE);
        due("save(2)", x.save(2), BAD_VALUE);
        due("save(0)", x.save(0), 18);
        due("no change is recorded", x.count(17), 1);
        x.cut(0);
        due("save(1)", x.save(1), 12);
        due("restore(0)", x.restore(0), 18);
        due("restore(1)", x.restore(1), 12);
        due("save(0) again", x.save(0), 12);
        readText(x, HILL);
        due("restore(0)", x.restore(0), 12);
    }

    private static void restore() {
        start("promise 23");
        OxbowReaches x = river(LOOP);
        due("restore(-1)", x.restore(-1), BAD_VALUE);
        due("restore(2)", x.restore(2), BAD_VALUE);
        due("restore(0)", x.restore(0), NOT_POSSIBLE);
        x.set(3, 50);
        x.flood(2, true);
        x.dike(0, 0, true);
        x.pass(3);
        x.save(1);
        due("restore(0)", x.restore(0), NOT_POSSIBLE);
        x.set(3, 7);
        x.flood(5, true);
        x.dike(0, 0, false);
        x.pass(9);
        putText(x, "7,7");
        due("restore(1)", x.restore(1), 12);
        dueCounts(x, 3, 0, 1, 3, 1, 1, 1, 1);
        dueCounts(x, 12, 2, 6, 3, 50, 3, 6);
        dueOxbow(x, 0, 8, 1, 5, 6);
        due("dike", x.cell(0, 0, 2), 1);
        due("isFlood(5)", x.isFlood(5), 0);
        x.pass(1);
        due("the slot is not what goes on", x.restore(1), 12);
        due("year", x.count(5), 3);
        due("undo", x.undo(), 5);
        due("year", x.count(5), 4);
    }
}

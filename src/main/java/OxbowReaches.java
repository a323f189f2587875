import java.util.Arrays;

/** A winding river on squared land, as the document's numbered promises describe it. */
public final class OxbowReaches {
    public static final int NO_SUCH = -1, BAD_VALUE = -2, BAD_TEXT = -3, TOO_MANY = -4, NOT_POSSIBLE = -5, NONE = -6;
    public static final int FLOW = 0, HARD = 1, NECK = 2, SILT = 3;

    private static final int[] FIRST_SETTINGS = {2, 6, 3, 5};
    private static final int[] HIGHEST_SETTINGS = {9, 60, 20, 50};

    private static final int WIDTH = 20;
    private static final int HEIGHT = 12;
    private static final int LAND = WIDTH * HEIGHT;
    // Each cell owns its pairs with the cell to its right and with the one above it: so the ways 0 and 1.
    private static final int PAIRS = 2 * LAND;
    private static final int FIRST_ROW = 6;
    private static final int LONGEST = 150;
    private static final int GROWTH = 2;
    private static final int NECK_REACH = 3;
    private static final int TOP_WEAR = 99;

    private static final int RIGHT = 0;
    private static final int UP = 1;
    private static final int LEFT = 2;
    private static final int DOWN = 3;
    private static final int WAYS = 4;

    private static final int MOST_OXBOWS = 12;
    private static final int MOST_FLOODS = 8;
    private static final int MOST_STATES = 6;
    private static final int SLOTS = 2;
    private static final int LAST_YEAR = 999;
    private static final int MOST_YEARS = 50;
    private static final int FORESIGHT = 60;

    /** Stands for a cell that is not on the land, and for a number that a cell does not have. */
    private static final int OFF = -1;

    private final River river = new River();
    // What-if calls and half-read courses are tried out here, so that no call makes a new river.
    private final River trial = new River();
    private final River[] slots = new River[SLOTS];
    private final boolean[] isSaved = new boolean[SLOTS];
    private final History history = new History();
    private final Pad pad = new Pad();
    private final Passing passing = new Passing();
    private final Bend foundBend = new Bend();
    private final Neck foundNeck = new Neck();

    public OxbowReaches() {
        for (int slot = 0; slot < slots.length; slot++) {
            slots[slot] = new River();
        }
    }

    // ---- changes

    public int set(int setting, int value) {
        if (setting < 0 || setting >= HIGHEST_SETTINGS.length) {
            return BAD_VALUE;
        }
        if (value < 1 || value > HIGHEST_SETTINGS[setting]) {
            return BAD_VALUE;
        }
        history.remember(river);
        int previous = river.setting(setting);
        river.changeSetting(setting, value);
        return previous;
    }

    public int read() {
        if (pad.scan() != NONE) {
            return BAD_TEXT;
        }
        if (pad.stepCount() + 1 > LONGEST) {
            return TOO_MANY;
        }
        trial.copyFrom(river);
        trial.clearAllButSettings();
        if (!pad.layCourse(trial.course)) {
            return NOT_POSSIBLE;
        }
        history.remember(river);
        river.copyFrom(trial);
        pad.clear();
        return river.course.length();
    }

    public int dike(int x, int y, boolean isBuilt) {
        int cell = cellAt(x, y);
        if (cell == OFF) {
            return NO_SUCH;
        }
        if (river.course.numberOf(cell) != OFF || river.isDike(cell) == isBuilt) {
            return NOT_POSSIBLE;
        }
        history.remember(river);
        river.changeDike(cell, isBuilt);
        return river.dikeCount();
    }

    public int flood(int year, boolean isFlood) {
        if (year < river.year || year > LAST_YEAR) {
            return BAD_VALUE;
        }
        if (river.hasFlood(year) == isFlood) {
            return NOT_POSSIBLE;
        }
        if (isFlood && river.floodCount >= MOST_FLOODS) {
            return TOO_MANY;
        }
        history.remember(river);
        river.changeFlood(year, isFlood);
        return river.floodCount;
    }

    public int cut(int neck) {
        if (!foundNeck.seekNumbered(river.course, neck)) {
            return NO_SUCH;
        }
        history.remember(river);
        river.cutBetween(foundNeck.from, foundNeck.to);
        return river.course.length();
    }

    public int pass(int years) {
        if (years < 1 || years > MOST_YEARS) {
            return BAD_VALUE;
        }
        if (river.year + years > LAST_YEAR) {
            return TOO_MANY;
        }
        history.remember(river);
        int cutsBefore = river.cutCount;
        for (int passed = 0; passed < years; passed++) {
            passing.passYear(river);
        }
        return river.cutCount - cutsBefore;
    }

    // ---- what there is; nothing changes

    public int cell(int x, int y, int what) {
        int cell = cellAt(x, y);
        if (cell == OFF) {
            return NO_SUCH;
        }
        switch (what) {
            case 0:
                return orNone(river.course.numberOf(cell));
            case 1:
                return river.wearOf(cell);
            case 2:
                return asNumber(river.isDike(cell));
            case 3:
                return orNone(river.oxbows.ownerOf(cell));
            default:
                return BAD_VALUE;
        }
    }

    public int course(int number, int what) {
        int cell = river.course.cellOf(number);
        if (cell == OFF) {
            return NO_SUCH;
        }
        switch (what) {
            case 0:
                return cell % WIDTH;
            case 1:
                return cell / WIDTH;
            case 2:
                return orNone(river.course.wayFrom(number));
            default:
                return BAD_VALUE;
        }
    }

    public int bend(int bend, int what) {
        if (!foundBend.seekNumbered(river.course, bend)) {
            return NO_SUCH;
        }
        switch (what) {
            case 0:
                return foundBend.first;
            case 1:
                return foundBend.last;
            case 2:
                return foundBend.way;
            case 3:
                return asNumber(river.isFirm(foundBend));
            case 4:
                return river.isFirm(foundBend) ? NONE : river.leastWear(foundBend);
            case 5:
                return asNumber(river.canGrow(foundBend));
            default:
                return BAD_VALUE;
        }
    }

    public int neck(int neck, int what) {
        if (!foundNeck.seekNumbered(river.course, neck)) {
            return NO_SUCH;
        }
        switch (what) {
            case 0:
                return foundNeck.from;
            case 1:
                return foundNeck.to;
            case 2:
                return river.ageOf(foundNeck.from, foundNeck.to);
            default:
                return BAD_VALUE;
        }
    }

    public int oxbow(int oxbow, int what) {
        if (!river.oxbows.has(oxbow)) {
            return NO_SUCH;
        }
        switch (what) {
            case 0:
                return river.oxbows.sizeOf(oxbow);
            case 1:
                return river.oxbows.yearsOf(oxbow);
            case 2:
                return river.oxbows.firstCellOf(oxbow) % WIDTH;
            case 3:
                return river.oxbows.firstCellOf(oxbow) / WIDTH;
            default:
                return BAD_VALUE;
        }
    }

    public int count(int what) {
        switch (what) {
            case 0:
                return river.course.length();
            case 1:
                return countBends(false);
            case 2:
                return countBends(true);
            case 3:
                return countNecks();
            case 4:
                return river.oxbows.length();
            case 5:
                return river.year;
            case 6:
                return river.floodCount;
            case 7:
                return river.dikeCount();
            case 8:
                return river.cutCount;
            case 9:
                return river.growthCount;
            case 10:
                return river.course.winding();
            case 11:
                return river.wearSum();
            case 12:
            case 13:
            case 14:
            case 15:
                return river.setting(what - 12);
            case 16:
                return pad.length();
            case 17:
                return history.length();
            default:
                return BAD_VALUE;
        }
    }

    public int isFlood(int year) {
        if (year < 0 || year > LAST_YEAR) {
            return BAD_VALUE;
        }
        return asNumber(river.hasFlood(year));
    }

    // ---- what if; nothing changes, and the year 999 does not matter

    public int ifPassed(int years, int what) {
        if (years < 1 || years > MOST_YEARS || what < 0 || what > 3) {
            return BAD_VALUE;
        }
        trial.copyFrom(river);
        for (int passed = 0; passed < years; passed++) {
            passing.passYear(trial);
        }
        switch (what) {
            case 0:
                return trial.cutCount - river.cutCount;
            case 1:
                return trial.growthCount - river.growthCount;
            case 2:
                return trial.course.length();
            default:
                return trial.oxbows.length();
        }
    }

    public int nextCut(int what) {
        if (what != 0 && what != 1) {
            return BAD_VALUE;
        }
        trial.copyFrom(river);
        for (int years = 0; years < FORESIGHT; years++) {
            passing.passYear(trial);
            if (passing.cellsCutOff > 0) {
                return what == 0 ? years : passing.cellsCutOff;
            }
        }
        return NONE;
    }

    public int taken(int x, int y) {
        int cell = cellAt(x, y);
        if (cell == OFF) {
            return NO_SUCH;
        }
        if (river.course.numberOf(cell) != OFF) {
            return NONE;
        }
        trial.copyFrom(river);
        passing.watch(cell);
        for (int years = 0; years < FORESIGHT; years++) {
            passing.passYear(trial);
            if (passing.isWatchedTaken) {
                return years;
            }
        }
        return NONE;
    }

    // ---- texts

    public int put(long characters) {
        int size = Pad.sizeOf(characters);
        if (size == 0) {
            return BAD_VALUE;
        }
        if (!pad.hasRoomFor(size)) {
            return TOO_MANY;
        }
        pad.append(characters, size);
        return pad.length();
    }

    public int wipe() {
        int length = pad.length();
        pad.clear();
        return length;
    }

    public int fault() {
        return pad.scan();
    }

    // ---- undo, saving

    public int undo() {
        if (!history.takeBack(river)) {
            return NOT_POSSIBLE;
        }
        return history.length();
    }

    public int save(int slot) {
        if (slot < 0 || slot >= slots.length || slot >= isSaved.length || slots[slot] == null) {
            return BAD_VALUE;
        }
        slots[slot].copyFrom(river);
        isSaved[slot] = true;
        return river.course.length();
    }

    public int restore(int slot) {
        if (slot < 0 || slot >= slots.length || slot >= isSaved.length || slots[slot] == null) {
            return BAD_VALUE;
        }
        if (!isSaved[slot]) {
            return NOT_POSSIBLE;
        }
        history.remember(river);
        river.copyFrom(slots[slot]);
        return river.course.length();
    }

    // ---- helpers

    private int countBends(boolean isOnlyFirm) {
        int found = 0;
        int start = 0;
        for (int turn = 0; turn < LONGEST && foundBend.seekFrom(river.course, start); turn++) {
            if (!isOnlyFirm || river.isFirm(foundBend)) {
                found++;
            }
            start = foundBend.first + 1;
        }
        return found;
    }

    private int countNecks() {
        int found = 0;
        for (int from = 0; from < river.course.length(); from++) {
            for (int way = 0; way < WAYS; way++) {
                if (river.course.numberBeside(from, way) >= from + NECK_REACH) {
                    found++;
                }
            }
        }
        return found;
    }

    private static int orNone(int number) {
        return number == OFF ? NONE : number;
    }

    private static int asNumber(boolean isSo) {
        return isSo ? 1 : 0;
    }

    private static int cellAt(int x, int y) {
        if (x < 0 || x >= WIDTH || y < 0 || y >= HEIGHT) {
            return OFF;
        }
        return y * WIDTH + x;
    }

    private static boolean isOnLand(int cell) {
        return cell >= 0 && cell < LAND;
    }

    private static int beside(int cell, int way) {
        if (cell < 0 || cell >= LAND) {
            return OFF;
        }
        switch (way) {
            case RIGHT:
                return cell % WIDTH < WIDTH - 1 ? cell + 1 : OFF;
            case UP:
                return cell + WIDTH < LAND ? cell + WIDTH : OFF;
            case LEFT:
                return cell % WIDTH > 0 ? cell - 1 : OFF;
            case DOWN:
                return cell >= WIDTH ? cell - WIDTH : OFF;
            default:
                return OFF;
        }
    }

    private static boolean areOpposite(int way, int other) {
        return Math.abs(way - other) == 2;
    }

    /** The row of cells through which the river flows. */
    private static final class Course {
        private final int[] cells = new int[LONGEST];
        private final int[] numbers = new int[LAND];
        private int length;

        Course() {
            clear();
        }

        void clear() {
            length = 0;
            Arrays.fill(numbers, OFF);
        }

        void copyFrom(Course other) {
            System.arraycopy(other.cells, 0, cells, 0, LONGEST);
            System.arraycopy(other.numbers, 0, numbers, 0, LAND);
            length = other.length;
        }

        int length() {
            return length;
        }

        boolean append(int cell) {
            if (!isOnLand(cell) || numbers[cell] != OFF || length < 0 || length >= LONGEST) {
                return false;
            }
            cells[length] = cell;
            numbers[cell] = length;
            length++;
            return true;
        }

        int cellOf(int number) {
            return number >= 0 && number < length && number < LONGEST ? cells[number] : OFF;
        }

        int numberOf(int cell) {
            return isOnLand(cell) ? numbers[cell] : OFF;
        }

        int numberBeside(int number, int way) {
            return numberOf(beside(cellOf(number), way));
        }

        /** Answers the lowest number above a given one among the neighbours of a cell, or OFF. */
        int nextBeside(int number, int above) {
            int next = OFF;
            for (int way = 0; way < WAYS; way++) {
                int other = numberBeside(number, way);
                if (other > above && (next == OFF || other < next)) {
                    next = other;
                }
            }
            return next;
        }

        int wayFrom(int number) {
            int here = cellOf(number);
            int there = cellOf(number + 1);
            if (here == OFF || there == OFF) {
                return OFF;
            }
            switch (there - here) {
                case 1:
                    return RIGHT;
                case WIDTH:
                    return UP;
                case -1:
                    return LEFT;
                default:
                    return DOWN;
            }
        }

        int winding() {
            int start = cellOf(0);
            int end = cellOf(length - 1);
            int away = Math.abs(end % WIDTH - start % WIDTH) + Math.abs(end / WIDTH - start / WIDTH);
            return away == 0 ? NONE : 1000 * (length - 1) / away;
        }

        /** Leads the course from first to last through the cells beside those from first to last. */
        void bulge(int first, int last, int way) {
            if (first < 0 || last <= first || last >= length || length + GROWTH > LONGEST) {
                return;
            }
            leaveBetween(first, last);
            for (int number = length - 1; number >= last; number--) {
                cells[number + GROWTH] = cells[number];
            }
            // Backwards, so that each old cell is still there when the one beside it is wanted.
            for (int number = last; number >= first; number--) {
                cells[number + 1] = beside(cells[number], way);
            }
            length += GROWTH;
            numberAgain(first);
        }

        void shorten(int from, int to) {
            if (from < 0 || to <= from || to >= length || length > LONGEST) {
                return;
            }
            leaveBetween(from, to);
            int gap = to - from - 1;
            for (int number = to; number < length; number++) {
                cells[number - gap] = cells[number];
            }
            length -= gap;
            numberAgain(from);
        }

        private void leaveBetween(int from, int to) {
            for (int number = from + 1; number < to; number++) {
                int cell = cellOf(number);
                if (isOnLand(cell)) {
                    numbers[cell] = OFF;
                }
            }
        }

        private void numberAgain(int start) {
            for (int number = start; number < length; number++) {
                int cell = cellOf(number);
                if (isOnLand(cell)) {
                    numbers[cell] = number;
                }
            }
        }
    }

    /** A bend that was found in a course; one object serves search after search. */
    private static final class Bend {
        private int first;
        private int last;
        private int way;

        /** Finds the first bend whose first cell has at least the number start. */
        boolean seekFrom(Course course, int start) {
            for (int number = Math.max(start, 1); number < course.length(); number++) {
                int ahead = course.wayFrom(number - 1);
                int along = course.wayFrom(number);
                if (ahead != along && along != OFF) {
                    int end = endOfRow(course, number, along);
                    int behind = course.wayFrom(end);
                    if (behind != OFF && areOpposite(ahead, behind)) {
                        first = number;
                        last = end;
                        way = ahead;
                        return true;
                    }
                }
            }
            return false;
        }

        boolean seekNumbered(Course course, int wanted) {
            if (wanted < 0 || wanted >= LONGEST) {
                return false;
            }
            int start = 0;
            for (int turn = 0; turn <= wanted; turn++) {
                if (!seekFrom(course, start)) {
                    return false;
                }
                start = first + 1;
            }
            return true;
        }

        private static int endOfRow(Course course, int start, int along) {
            int end = start;
            while (end < course.length() && course.wayFrom(end) == along) {
                end++;
            }
            return end;
        }
    }

    /** A neck that was found in a course; one object serves search after search. */
    private static final class Neck {
        private int from;
        private int to;

        boolean seekNumbered(Course course, int wanted) {
            if (wanted < 0) {
                return false;
            }
            int seen = 0;
            for (int number = 0; number < course.length(); number++) {
                int other = number + NECK_REACH - 1;
                for (int turn = 0; turn < WAYS; turn++) {
                    other = course.nextBeside(number, other);
                    if (other == OFF) {
                        break;
                    }
                    if (seen == wanted) {
                        from = number;
                        to = other;
                        return true;
                    }
                    seen++;
                }
            }
            return false;
        }

        /** Finds the neck that cuts off most of those with at least the given age. */
        boolean seekWidest(River river, int leastAge) {
            from = OFF;
            to = OFF;
            int widest = NECK_REACH - 1;
            Course course = river.course;
            for (int number = 0; number < course.length(); number++) {
                for (int way = 0; way < WAYS; way++) {
                    int other = course.numberBeside(number, way);
                    if (other - number > widest && river.ageOf(number, other) >= leastAge) {
                        from = number;
                        to = other;
                        widest = other - number;
                    }
                }
            }
            return from != OFF;
        }
    }

    /** The oxbows in the order in which they came; no cell belongs to two of them. */
    private static final class Oxbows {
        private final int[] owners = new int[LAND];
        private final int[] firstCells = new int[MOST_OXBOWS];
        private final int[] sizes = new int[MOST_OXBOWS];
        private final int[] years = new int[MOST_OXBOWS];
        private int length;

        Oxbows() {
            clear();
        }

        void clear() {
            length = 0;
            Arrays.fill(owners, OFF);
        }

        void copyFrom(Oxbows other) {
            System.arraycopy(other.owners, 0, owners, 0, LAND);
            System.arraycopy(other.firstCells, 0, firstCells, 0, MOST_OXBOWS);
            System.arraycopy(other.sizes, 0, sizes, 0, MOST_OXBOWS);
            System.arraycopy(other.years, 0, years, 0, MOST_OXBOWS);
            length = other.length;
        }

        int length() {
            return length;
        }

        boolean has(int oxbow) {
            return oxbow >= 0 && oxbow < length && oxbow < MOST_OXBOWS;
        }

        int ownerOf(int cell) {
            return isOnLand(cell) ? owners[cell] : OFF;
        }

        int sizeOf(int oxbow) {
            return has(oxbow) ? sizes[oxbow] : 0;
        }

        int yearsOf(int oxbow) {
            return has(oxbow) ? years[oxbow] : 0;
        }

        int firstCellOf(int oxbow) {
            return has(oxbow) ? firstCells[oxbow] : 0;
        }

        /** Makes an oxbow of the cells of a course between two numbers. */
        void take(Course course, int from, int to) {
            if (length >= MOST_OXBOWS) {
                drop(0);
            }
            if (length < 0 || length >= MOST_OXBOWS) {
                return;
            }
            for (int number = from + 1; number < to; number++) {
                int cell = course.cellOf(number);
                if (isOnLand(cell)) {
                    owners[cell] = length;
                }
            }
            firstCells[length] = course.cellOf(from + 1);
            sizes[length] = to - from - 1;
            years[length] = 0;
            length++;
        }

        void drop(int oxbow) {
            if (!has(oxbow)) {
                return;
            }
            for (int cell = 0; cell < LAND; cell++) {
                if (owners[cell] == oxbow) {
                    owners[cell] = OFF;
                } else if (owners[cell] > oxbow) {
                    owners[cell]--;
                }
            }
            for (int next = oxbow + 1; next < length && next < MOST_OXBOWS; next++) {
                firstCells[next - 1] = firstCells[next];
                sizes[next - 1] = sizes[next];
                years[next - 1] = years[next];
            }
            length--;
        }

        void passYear(int silt) {
            // From the last one to the first, so that those that move up have been looked at.
            for (int oxbow = Math.min(length, MOST_OXBOWS) - 1; oxbow >= 0; oxbow--) {
                years[oxbow]++;
                if (years[oxbow] >= silt) {
                    drop(oxbow);
                }
            }
        }
    }

    /** All that undo brings back and that a slot keeps. */
    private static final class River {
        private final int[] settings = new int[FIRST_SETTINGS.length];
        private final Course course = new Course();
        private final Oxbows oxbows = new Oxbows();
        private final int[] wear = new int[LAND];
        private final int[] dikes = new int[LAND];
        private final int[] ages = new int[PAIRS];
        private final int[] floods = new int[MOST_FLOODS];
        private int floodCount;
        private int year;
        private int cutCount;
        private int growthCount;

        River() {
            System.arraycopy(FIRST_SETTINGS, 0, settings, 0, settings.length);
            for (int x = 0; x < WIDTH; x++) {
                course.append(cellAt(x, FIRST_ROW));
            }
        }

        void copyFrom(River other) {
            System.arraycopy(other.settings, 0, settings, 0, settings.length);
            course.copyFrom(other.course);
            oxbows.copyFrom(other.oxbows);
            System.arraycopy(other.wear, 0, wear, 0, LAND);
            System.arraycopy(other.dikes, 0, dikes, 0, LAND);
            System.arraycopy(other.ages, 0, ages, 0, PAIRS);
            System.arraycopy(other.floods, 0, floods, 0, MOST_FLOODS);
            floodCount = other.floodCount;
            year = other.year;
            cutCount = other.cutCount;
            growthCount = other.growthCount;
        }

        /** Leaves no course: the caller lays one. */
        void clearAllButSettings() {
            course.clear();
            oxbows.clear();
            Arrays.fill(wear, 0);
            Arrays.fill(dikes, 0);
            Arrays.fill(ages, 0);
            floodCount = 0;
            year = 0;
            cutCount = 0;
            growthCount = 0;
        }

        int setting(int setting) {
            return setting >= 0 && setting < settings.length ? settings[setting] : 0;
        }

        void changeSetting(int setting, int value) {
            if (setting >= 0 && setting < settings.length) {
                settings[setting] = value;
            }
        }

        boolean isDike(int cell) {
            return isOnLand(cell) && dikes[cell] == 1;
        }

        void changeDike(int cell, boolean isBuilt) {
            if (isOnLand(cell)) {
                dikes[cell] = asNumber(isBuilt);
            }
        }

        int dikeCount() {
            int found = 0;
            for (int cell = 0; cell < LAND; cell++) {
                found += dikes[cell];
            }
            return found;
        }

        boolean hasFlood(int wanted) {
            for (int place = 0; place < floodCount && place < MOST_FLOODS; place++) {
                if (floods[place] == wanted) {
                    return true;
                }
            }
            return false;
        }

        void changeFlood(int wanted, boolean isFlood) {
            if (isFlood) {
                addFlood(wanted);
            } else {
                removeFlood(wanted);
            }
        }

        private void addFlood(int wanted) {
            if (floodCount >= 0 && floodCount < MOST_FLOODS) {
                floods[floodCount] = wanted;
                floodCount++;
            }
        }

        private void removeFlood(int wanted) {
            int kept = 0;
            for (int place = 0; place < floodCount && place < MOST_FLOODS; place++) {
                if (floods[place] != wanted) {
                    floods[kept] = floods[place];
                    kept++;
                }
            }
            floodCount = kept;
        }

        int wearOf(int cell) {
            return isOnLand(cell) ? wear[cell] : 0;
        }

        int wearSum() {
            int sum = 0;
            for (int cell = 0; cell < LAND; cell++) {
                sum += wear[cell];
            }
            return sum;
        }

        int bankCell(Bend bend, int number) {
            return beside(course.cellOf(number), bend.way);
        }

        boolean isFirm(Bend bend) {
            for (int number = bend.first; number <= bend.last; number++) {
                int cell = bankCell(bend, number);
                if (cell == OFF || isDike(cell) || course.numberOf(cell) != OFF) {
                    return true;
                }
            }
            return false;
        }

        int leastWear(Bend bend) {
            int least = TOP_WEAR;
            for (int number = bend.first; number <= bend.last; number++) {
                least = Math.min(least, wearOf(bankCell(bend, number)));
            }
            return least;
        }

        boolean canGrow(Bend bend) {
            return course.length() + GROWTH <= LONGEST && !isFirm(bend) && leastWear(bend) >= setting(HARD);
        }

        void wearBank(Bend bend, int strength) {
            for (int number = bend.first; number <= bend.last; number++) {
                int cell = bankCell(bend, number);
                if (isOnLand(cell)) {
                    boolean isOxbow = oxbows.ownerOf(cell) != OFF;
                    wear[cell] = isOxbow ? TOP_WEAR : Math.min(wear[cell] + strength, TOP_WEAR);
                }
            }
        }

        void growBend(Bend bend) {
            for (int number = bend.first; number <= bend.last; number++) {
                int cell = bankCell(bend, number);
                if (isOnLand(cell)) {
                    wear[cell] = 0;
                    oxbows.drop(oxbows.ownerOf(cell));
                }
            }
            course.bulge(bend.first, bend.last, bend.way);
            growthCount++;
        }

        int ageOf(int number, int other) {
            int cell = course.cellOf(number);
            int otherCell = course.cellOf(other);
            int way = Math.abs(cell - otherCell) == WIDTH ? UP : RIGHT;
            int pair = pairOf(Math.min(cell, otherCell), way);
            return pair >= 0 && pair < PAIRS ? ages[pair] : 0;
        }

        void agePairs() {
            for (int cell = 0; cell < LAND; cell++) {
                agePair(cell, RIGHT);
                agePair(cell, UP);
            }
        }

        private void agePair(int cell, int way) {
            int number = course.numberOf(cell);
            int other = course.numberOf(beside(cell, way));
            boolean isNeck = number != OFF && other != OFF && Math.abs(number - other) >= NECK_REACH;
            int pair = pairOf(cell, way);
            if (pair >= 0 && pair < PAIRS) {
                ages[pair] = isNeck ? ages[pair] + 1 : 0;
            }
        }

        private static int pairOf(int cell, int way) {
            return 2 * cell + way;
        }

        void cutBetween(int from, int to) {
            oxbows.take(course, from, to);
            course.shorten(from, to);
            cutCount++;
        }
    }

    /** Lets years pass, and keeps what is asked of the latest one. */
    private static final class Passing {
        private final Bend bend = new Bend();
        private final Neck neck = new Neck();
        private int watchedCell = OFF;
        private boolean isWatchedTaken;
        private int cellsCutOff;

        void watch(int cell) {
            watchedCell = cell;
            isWatchedTaken = false;
        }

        void passYear(River river) {
            boolean isFloodYear = river.hasFlood(river.year);
            wearBanks(river, isFloodYear);
            growBends(river);
            river.agePairs();
            cutNecks(river, isFloodYear);
            river.oxbows.passYear(river.setting(SILT));
            river.year++;
        }

        private void wearBanks(River river, boolean isFloodYear) {
            int strength = river.setting(FLOW) * (isFloodYear ? 2 : 1);
            int start = 0;
            for (int turn = 0; turn < LONGEST && bend.seekFrom(river.course, start); turn++) {
                if (!river.isFirm(bend)) {
                    river.wearBank(bend, strength);
                }
                start = bend.first + 1;
            }
        }

        private void growBends(River river) {
            int start = 0;
            for (int turn = 0; turn < LONGEST && bend.seekFrom(river.course, start); turn++) {
                if (river.canGrow(bend)) {
                    noteTaken(river);
                    river.growBend(bend);
                    start = bend.last + GROWTH;
                } else {
                    start = bend.first + 1;
                }
            }
        }

        // A cut of the same year may take the cell out of the course again, so the growing itself is asked.
        private void noteTaken(River river) {
            for (int number = bend.first; number <= bend.last; number++) {
                if (river.bankCell(bend, number) == watchedCell) {
                    isWatchedTaken = true;
                }
            }
        }

        private void cutNecks(River river, boolean isFloodYear) {
            int leastAge = isFloodYear ? 0 : river.setting(NECK);
            int lengthBefore = river.course.length();
            for (int turn = 0; turn < LONGEST && neck.seekWidest(river, leastAge); turn++) {
                river.cutBetween(neck.from, neck.to);
            }
            cellsCutOff = lengthBefore - river.course.length();
        }
    }

    /** The latest states, in a ring of rows that are made once. */
    private static final class History {
        private final River[] states = new River[MOST_STATES];
        private int start;
        private int length;

        History() {
            for (int place = 0; place < states.length; place++) {
                states[place] = new River();
            }
        }

        int length() {
            return length;
        }

        void remember(River river) {
            int place = (start + length) % MOST_STATES;
            if (length == MOST_STATES) {
                start = (start + 1) % MOST_STATES;
            } else {
                length++;
            }
            if (place >= 0 && place < states.length && states[place] != null) {
                states[place].copyFrom(river);
            }
        }

        boolean takeBack(River river) {
            if (length == 0) {
                return false;
            }
            length--;
            int place = (start + length) % MOST_STATES;
            if (place >= 0 && place < states.length && states[place] != null) {
                river.copyFrom(states[place]);
            }
            return true;
        }
    }

    /** The text from which a course is read. */
    private static final class Pad {
        private static final int MOST_SIGNS = 64;
        private static final int BITS = 8;
        private static final int MASK = 255;
        private static final int MOST_AT_ONCE = 8;

        private final int[] signs = new int[MOST_SIGNS];
        private final int[] ways = new int[LONGEST];
        private int length;
        private int at;
        private int startX;
        private int startY;
        private int stepCount;

        int length() {
            return length;
        }

        int stepCount() {
            return stepCount;
        }

        void clear() {
            length = 0;
        }

        /** Answers how many characters a number holds, or 0 if it does not hold characters. */
        static int sizeOf(long characters) {
            int size = 0;
            long rest = characters;
            while (size < MOST_AT_ONCE && (rest & MASK) != 0) {
                int sign = (int) (rest & MASK);
                if (sign < 33 || sign > 126) {
                    return 0;
                }
                size++;
                rest >>>= BITS;
            }
            return rest == 0 ? size : 0;
        }

        boolean hasRoomFor(int size) {
            return length + size <= MOST_SIGNS;
        }

        void append(long characters, int size) {
            long rest = characters;
            for (int place = length + size - 1; place >= length; place--) {
                if (place >= 0 && place < MOST_SIGNS) {
                    signs[place] = (int) (rest & MASK);
                }
                rest >>>= BITS;
            }
            length += size;
        }

        /** Reads the text from left to right, and answers its fault, or NONE. */
        int scan() {
            at = 0;
            stepCount = 0;
            startX = scanNumber(WIDTH - 1, ',');
            if (startX == OFF) {
                return at;
            }
            startY = scanNumber(HEIGHT - 1, ':');
            if (startY == OFF) {
                return at;
            }
            return scanSteps() ? NONE : at;
        }

        /** Answers OFF if the number, or the sign that ends it, cannot stand here. */
        private int scanNumber(int highest, char end) {
            int value = digitAt(at);
            if (value == OFF) {
                return OFF;
            }
            at++;
            int second = digitAt(at);
            // No number of the text has three digits.
            if (second != OFF && value > 0 && value * 10 + second <= highest) {
                value = value * 10 + second;
                at++;
            }
            if (signAt(at) != end) {
                return OFF;
            }
            at++;
            return value;
        }

        private boolean scanSteps() {
            while (at < length) {
                int way = wayAt(at);
                if (way == OFF) {
                    return false;
                }
                at++;
                int times = 1;
                if (digitAt(at) >= 2) {
                    times = digitAt(at);
                    at++;
                }
                addSteps(way, times);
            }
            return stepCount > 0;
        }

        private void addSteps(int way, int times) {
            for (int step = 0; step < times; step++) {
                // A course with more steps is refused, but how many there are has to be known.
                if (stepCount >= 0 && stepCount < LONGEST) {
                    ways[stepCount] = way;
                }
                stepCount++;
            }
        }

        private int signAt(int place) {
            return place >= 0 && place < length && place < MOST_SIGNS ? signs[place] : 0;
        }

        private int digitAt(int place) {
            int sign = signAt(place);
            return sign >= '0' && sign <= '9' ? sign - '0' : OFF;
        }

        private int wayAt(int place) {
            switch (signAt(place)) {
                case 'r':
                    return RIGHT;
                case 'u':
                    return UP;
                case 'l':
                    return LEFT;
                case 'd':
                    return DOWN;
                default:
                    return OFF;
            }
        }

        /** Lays the course that was scanned; answers whether it can lie so. */
        boolean layCourse(Course course) {
            int cell = cellAt(startX, startY);
            boolean isLaid = course.append(cell);
            for (int step = 0; isLaid && step < stepCount && step < LONGEST; step++) {
                cell = beside(cell, ways[step]);
                isLaid = course.append(cell);
            }
            return isLaid;
        }
    }
}

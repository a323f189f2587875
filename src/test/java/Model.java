import java.util.ArrayList;
import java.util.HashMap;
import java.util.HashSet;
import java.util.LinkedHashMap;
import java.util.List;
import java.util.Map;
import java.util.Set;
import java.util.TreeSet;
import java.util.regex.Matcher;
import java.util.regex.Pattern;

/**
 * A second, slow reading of the document, with lists and maps where the program has rows of numbers,
 * so that the two can be held against each other.
 */
final class Model {
    record Cell(int x, int y) {
        Cell step(int way) {
            return switch (way) {
                case 0 -> new Cell(x + 1, y);
                case 1 -> new Cell(x, y + 1);
                case 2 -> new Cell(x - 1, y);
                default -> new Cell(x, y - 1);
            };
        }

        boolean isOnLand() {
            return 0 <= x && x <= 19 && 0 <= y && y <= 11;
        }
    }

    record Bend(int first, int last, int way) { }

    record Neck(int i, int j) { }

    static final class Oxbow {
        final List<Cell> cells;
        int years;

        Oxbow(List<Cell> cells, int years) {
            this.cells = cells;
            this.years = years;
        }
    }

    static final class State {
        int[] settings = {2, 6, 3, 5};
        List<Cell> course = new ArrayList<>();
        Map<Cell, Integer> wear = new HashMap<>();
        Set<Cell> dikes = new HashSet<>();
        Map<Set<Cell>, Integer> ages = new HashMap<>();
        List<Oxbow> oxbows = new ArrayList<>();
        TreeSet<Integer> floods = new TreeSet<>();
        int year;
        int cuts;
        int growths;
        Map<Cell, Integer> takenIn = new LinkedHashMap<>();

        State copy() {
            State other = new State();
            other.settings = settings.clone();
            other.course = new ArrayList<>(course);
            other.wear = new HashMap<>(wear);
            other.dikes = new HashSet<>(dikes);
            other.ages = new HashMap<>(ages);
            for (Oxbow oxbow : oxbows) {
                other.oxbows.add(new Oxbow(oxbow.cells, oxbow.years));
            }
            other.floods = new TreeSet<>(floods);
            other.year = year;
            other.cuts = cuts;
            other.growths = growths;
            return other;
        }

        int way(int step) {
            for (int way = 0; way < 4; way++) {
                if (course.get(step).step(way).equals(course.get(step + 1))) {
                    return way;
                }
            }
            throw new IllegalStateException("no step");
        }

        /** Straight from the definition: every row of steps is looked at. */
        List<Bend> bends() {
            List<Bend> found = new ArrayList<>();
            int steps = course.size() - 1;
            for (int p = 1; p < steps; p++) {
                for (int q = p; q + 1 < steps && way(q) == way(p); q++) {
                    int ahead = way(p - 1);
                    int behind = way(q + 1);
                    if ((ahead + way(p)) % 2 == 1 && behind == (ahead + 2) % 4) {
                        found.add(new Bend(p, q + 1, ahead));
                    }
                }
            }
            return found;
        }

        List<Cell> bank(Bend bend) {
            List<Cell> cells = new ArrayList<>();
            for (Cell cell : course.subList(bend.first, bend.last + 1)) {
                cells.add(cell.step(bend.way));
            }
            return cells;
        }

        boolean isFirm(Bend bend) {
            for (Cell cell : bank(bend)) {
                if (!cell.isOnLand() || dikes.contains(cell) || course.contains(cell)) {
                    return true;
                }
            }
            return false;
        }

        int leastWear(Bend bend) {
            int least = 1000;
            for (Cell cell : bank(bend)) {
                least = Math.min(least, wear.getOrDefault(cell, 0));
            }
            return least;
        }

        boolean canGrow(Bend bend) {
            return !isFirm(bend) && leastWear(bend) >= settings[1] && course.size() <= 148;
        }

        List<Neck> necks() {
            List<Neck> found = new ArrayList<>();
            for (int i = 0; i < course.size(); i++) {
                for (int j = i + 3; j < course.size(); j++) {
                    if (areNeighbours(course.get(i), course.get(j))) {
                        found.add(new Neck(i, j));
                    }
                }
            }
            return found;
        }

        static boolean areNeighbours(Cell a, Cell b) {
            return Math.abs(a.x - b.x) + Math.abs(a.y - b.y) == 1;
        }

        Set<Cell> pair(Neck neck) {
            return Set.of(course.get(neck.i), course.get(neck.j));
        }

        int age(Neck neck) {
            return ages.getOrDefault(pair(neck), 0);
        }

        int oxbowAt(Cell cell) {
            for (int k = 0; k < oxbows.size(); k++) {
                if (oxbows.get(k).cells.contains(cell)) {
                    return k;
                }
            }
            return -6;
        }

        void grow(Bend bend) {
            List<Cell> bank = bank(bend);
            List<Cell> next = new ArrayList<>(course.subList(0, bend.first + 1));
            next.addAll(bank);
            next.addAll(course.subList(bend.last, course.size()));
            course = next;
            for (Cell cell : bank) {
                wear.put(cell, 0);
                oxbows.removeIf(oxbow -> oxbow.cells.contains(cell));
                takenIn.putIfAbsent(cell, year);
            }
            growths++;
        }

        int cut(Neck neck) {
            List<Cell> cells = new ArrayList<>(course.subList(neck.i + 1, neck.j));
            course.subList(neck.i + 1, neck.j).clear();
            if (oxbows.size() == 12) {
                oxbows.remove(0);
            }
            oxbows.add(new Oxbow(cells, 0));
            cuts++;
            return cells.size();
        }

        /** Answers by how many cells the cuts of the year make the course shorter. */
        int year() {
            boolean isFlood = floods.contains(year);
            for (Bend bend : bends()) {
                if (!isFirm(bend)) {
                    for (Cell cell : bank(bend)) {
                        int worn = wear.getOrDefault(cell, 0) + settings[0] * (isFlood ? 2 : 1);
                        wear.put(cell, oxbowAt(cell) >= 0 ? 99 : Math.min(99, worn));
                    }
                }
            }
            growAll();
            Map<Set<Cell>, Integer> older = ages;
            ages = new HashMap<>();
            for (Neck neck : necks()) {
                ages.put(pair(neck), older.getOrDefault(pair(neck), 0) + 1);
            }
            int shorter = 0;
            for (Neck neck = due(isFlood); neck != null; neck = due(isFlood)) {
                shorter += cut(neck);
            }
            for (Oxbow oxbow : oxbows) {
                oxbow.years++;
            }
            oxbows.removeIf(oxbow -> oxbow.years >= settings[3]);
            year++;
            return shorter;
        }

        private void growAll() {
            int from = 0;
            while (true) {
                Bend growing = null;
                for (Bend bend : bends()) {
                    if (growing == null && bend.first >= from && canGrow(bend)) {
                        growing = bend;
                    }
                }
                if (growing == null) {
                    return;
                }
                Cell lastCell = course.get(growing.last);
                grow(growing);
                from = course.indexOf(lastCell);
            }
        }

        private Neck due(boolean isFlood) {
            Neck best = null;
            for (Neck neck : necks()) {
                boolean isDue = isFlood || age(neck) >= settings[2];
                if (isDue && (best == null || neck.j - neck.i > best.j - best.i)) {
                    best = neck;
                }
            }
            return best;
        }
    }

    private static final Pattern TEXT = Pattern.compile("(1[0-9]|[0-9]),(1[01]|[0-9]):([ruld][2-9]?)+");
    private static final int[] HIGHEST = {9, 60, 20, 50};

    State now = new State();
    final List<State> history = new ArrayList<>();
    final State[] slots = new State[2];
    String pad = "";

    Model() {
        for (int x = 0; x < 20; x++) {
            now.course.add(new Cell(x, 6));
        }
    }

    private void record() {
        history.add(now.copy());
        if (history.size() > 6) {
            history.remove(0);
        }
    }

    int set(int setting, int value) {
        if (setting < 0 || setting > 3 || value < 1 || value > HIGHEST[setting]) {
            return -2;
        }
        record();
        int previous = now.settings[setting];
        now.settings[setting] = value;
        return previous;
    }

    int read() {
        if (fault() != -6) {
            return -3;
        }
        int comma = pad.indexOf(',');
        int colon = pad.indexOf(':');
        int x = Integer.parseInt(pad.substring(0, comma));
        int y = Integer.parseInt(pad.substring(comma + 1, colon));
        Cell cell = new Cell(x, y);
        String steps = pad.substring(colon + 1);
        StringBuilder spelled = new StringBuilder();
        for (char sign : steps.toCharArray()) {
            if (Character.isDigit(sign)) {
                spelled.append(String.valueOf(spelled.charAt(spelled.length() - 1)).repeat(sign - '1'));
            } else {
                spelled.append(sign);
            }
        }
        if (spelled.length() > 149) {
            return -4;
        }
        List<Cell> course = new ArrayList<>(List.of(cell));
        for (char sign : spelled.toString().toCharArray()) {
            cell = cell.step("ruld".indexOf(sign));
            if (!cell.isOnLand() || course.contains(cell)) {
                return -5;
            }
            course.add(cell);
        }
        record();
        int[] settings = now.settings;
        now = new State();
        now.settings = settings;
        now.course = course;
        pad = "";
        return course.size();
    }

    int dike(int x, int y, boolean isBuilt) {
        Cell cell = new Cell(x, y);
        if (!cell.isOnLand()) {
            return -1;
        }
        if (now.course.contains(cell) || now.dikes.contains(cell) == isBuilt) {
            return -5;
        }
        record();
        if (isBuilt) {
            now.dikes.add(cell);
        } else {
            now.dikes.remove(cell);
        }
        return now.dikes.size();
    }

    int flood(int year, boolean isFlood) {
        if (year < now.year || year > 999) {
            return -2;
        }
        if (now.floods.contains(year) == isFlood) {
            return -5;
        }
        if (isFlood && now.floods.size() == 8) {
            return -4;
        }
        record();
        if (isFlood) {
            now.floods.add(year);
        } else {
            now.floods.remove(year);
        }
        return now.floods.size();
    }

    int cut(int neck) {
        List<Neck> necks = now.necks();
        if (neck < 0 || neck >= necks.size()) {
            return -1;
        }
        record();
        now.cut(necks.get(neck));
        return now.course.size();
    }

    int pass(int years) {
        if (years < 1 || years > 50) {
            return -2;
        }
        if (now.year + years > 999) {
            return -4;
        }
        record();
        int before = now.cuts;
        for (int k = 0; k < years; k++) {
            now.year();
        }
        return now.cuts - before;
    }

    int cell(int x, int y, int what) {
        Cell cell = new Cell(x, y);
        if (!cell.isOnLand()) {
            return -1;
        }
        return switch (what) {
            case 0 -> now.course.contains(cell) ? now.course.indexOf(cell) : -6;
            case 1 -> now.wear.getOrDefault(cell, 0);
            case 2 -> now.dikes.contains(cell) ? 1 : 0;
            case 3 -> now.oxbowAt(cell);
            default -> -2;
        };
    }

    int course(int number, int what) {
        if (number < 0 || number >= now.course.size()) {
            return -1;
        }
        return switch (what) {
            case 0 -> now.course.get(number).x;
            case 1 -> now.course.get(number).y;
            case 2 -> number == now.course.size() - 1 ? -6 : now.way(number);
            default -> -2;
        };
    }

    int bend(int number, int what) {
        List<Bend> bends = now.bends();
        if (number < 0 || number >= bends.size()) {
            return -1;
        }
        Bend bend = bends.get(number);
        return switch (what) {
            case 0 -> bend.first;
            case 1 -> bend.last;
            case 2 -> bend.way;
            case 3 -> now.isFirm(bend) ? 1 : 0;
            case 4 -> now.isFirm(bend) ? -6 : now.leastWear(bend);
            case 5 -> now.canGrow(bend) ? 1 : 0;
            default -> -2;
        };
    }

    int neck(int number, int what) {
        List<Neck> necks = now.necks();
        if (number < 0 || number >= necks.size()) {
            return -1;
        }
        Neck neck = necks.get(number);
        return switch (what) {
            case 0 -> neck.i;
            case 1 -> neck.j;
            case 2 -> now.age(neck);
            default -> -2;
        };
    }

    int oxbow(int number, int what) {
        if (number < 0 || number >= now.oxbows.size()) {
            return -1;
        }
        Oxbow oxbow = now.oxbows.get(number);
        return switch (what) {
            case 0 -> oxbow.cells.size();
            case 1 -> oxbow.years;
            case 2 -> oxbow.cells.get(0).x;
            case 3 -> oxbow.cells.get(0).y;
            default -> -2;
        };
    }

    int count(int what) {
        return switch (what) {
            case 0 -> now.course.size();
            case 1 -> now.bends().size();
            case 2 -> (int) now.bends().stream().filter(now::isFirm).count();
            case 3 -> now.necks().size();
            case 4 -> now.oxbows.size();
            case 5 -> now.year;
            case 6 -> now.floods.size();
            case 7 -> now.dikes.size();
            case 8 -> now.cuts;
            case 9 -> now.growths;
            case 10 -> winding();
            case 11 -> now.wear.values().stream().mapToInt(Integer::intValue).sum();
            case 12, 13, 14, 15 -> now.settings[what - 12];
            case 16 -> pad.length();
            case 17 -> history.size();
            default -> -2;
        };
    }

    private int winding() {
        Cell start = now.course.get(0);
        Cell end = now.course.get(now.course.size() - 1);
        return 1000 * (now.course.size() - 1) / (Math.abs(start.x - end.x) + Math.abs(start.y - end.y));
    }

    int isFlood(int year) {
        return year < 0 || year > 999 ? -2 : now.floods.contains(year) ? 1 : 0;
    }

    int ifPassed(int years, int what) {
        if (years < 1 || years > 50 || what < 0 || what > 3) {
            return -2;
        }
        State then = now.copy();
        for (int k = 0; k < years; k++) {
            then.year();
        }
        return switch (what) {
            case 0 -> then.cuts - now.cuts;
            case 1 -> then.growths - now.growths;
            case 2 -> then.course.size();
            default -> then.oxbows.size();
        };
    }

    int nextCut(int what) {
        if (what < 0 || what > 1) {
            return -2;
        }
        State then = now.copy();
        for (int k = 0; k < 60; k++) {
            int shorter = then.year();
            if (shorter > 0) {
                return what == 0 ? k : shorter;
            }
        }
        return -6;
    }

    int taken(int x, int y) {
        Cell cell = new Cell(x, y);
        if (!cell.isOnLand()) {
            return -1;
        }
        if (now.course.contains(cell)) {
            return -6;
        }
        State then = now.copy();
        for (int k = 0; k < 60; k++) {
            then.year();
        }
        return then.takenIn.containsKey(cell) ? then.takenIn.get(cell) - now.year : -6;
    }

    int put(long characters) {
        String text = "";
        boolean hasEnded = false;
        for (int shift = 0; shift < 64; shift += 8) {
            int code = (int) (characters >>> shift & 255);
            if (code == 0) {
                hasEnded = true;
            } else if (hasEnded || code < 33 || code > 126) {
                return -2;
            } else {
                text = (char) code + text;
            }
        }
        if (text.isEmpty()) {
            return -2;
        }
        if (pad.length() + text.length() > 64) {
            return -4;
        }
        pad += text;
        return pad.length();
    }

    int wipe() {
        int length = pad.length();
        pad = "";
        return length;
    }

    /** The longest beginning that some right text has, too, ends at the fault. */
    int fault() {
        for (int k = 0; k < pad.length(); k++) {
            Matcher matcher = TEXT.matcher(pad.substring(0, k + 1));
            if (!matcher.matches() && !matcher.hitEnd()) {
                return k;
            }
        }
        return TEXT.matcher(pad).matches() ? -6 : pad.length();
    }

    int undo() {
        if (history.isEmpty()) {
            return -5;
        }
        now = history.remove(history.size() - 1);
        return history.size();
    }

    int save(int slot) {
        if (slot < 0 || slot > 1) {
            return -2;
        }
        slots[slot] = now.copy();
        return now.course.size();
    }

    int restore(int slot) {
        if (slot < 0 || slot > 1) {
            return -2;
        }
        if (slots[slot] == null) {
            return -5;
        }
        record();
        now = slots[slot].copy();
        return now.course.size();
    }
}

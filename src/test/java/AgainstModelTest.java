import java.util.ArrayList;
import java.util.List;

/** Holds the program against the model over long runs of calls that are drawn by a fixed rule. */
public final class AgainstModelTest {
    private static final int RUNS = 1200;
    // Behind the 512th call what an object answers is free.
    private static final int CALLS = 512;
    // A change may take the calls that put a whole text, 65 of one character each and four more.
    private static final int CALLS_OF_A_CHANGE = 69;
    private static final int QUESTIONS_BEHIND_A_CHANGE = 5;
    private static final int MOST_SHOWN = 20;

    private static int wrong;
    private static final int[] answeredWell = new int[22];

    private final int run;
    private long seed;
    private final OxbowReaches program = new OxbowReaches();
    private final Model model = new Model();
    private final List<String> calls = new ArrayList<>();
    private final boolean isWet;

    private AgainstModelTest(int run) {
        this.run = run;
        this.seed = 1000003L * run + 17;
        this.isWet = drawYes(25);
    }

    public static void main(String[] args) {
        for (int run = 0; run < RUNS && wrong == 0; run++) {
            new AgainstModelTest(run).play();
        }
        for (int call = 0; call < answeredWell.length; call++) {
            if (wrong == 0 && answeredWell[call] == 0) {
                wrong++;
                System.out.println("no run had an answer of call " + call + " that is no error");
            }
        }
        if (wrong != 0) {
            System.exit(1);
        }
    }

    private int draw(int bound) {
        seed = seed * 6364136223846793005L + 1442695040888963407L;
        return (int) ((seed >>> 33) % bound);
    }

    private int draw(int low, int high) {
        return low + draw(high - low + 1);
    }

    private boolean drawYes(int percent) {
        return draw(100) < percent;
    }

    private void due(int kind, String call, int got, int want) {
        calls.add(call + " = " + want);
        if (want >= 0) {
            answeredWell[kind]++;
        }
        if (got != want) {
            wrong++;
            if (wrong == 1) {
                calls.forEach(System.out::println);
            }
            if (wrong <= MOST_SHOWN) {
                System.out.println("run " + run + ": " + call + " answered " + got + ", due is " + want);
            }
        }
    }

    private void play() {
        if (drawYes(60)) {
            int setting = draw(4);
            int value = new int[] {9, 60, 20, 50}[setting];
            due(0, "set " + setting + " " + value, program.set(setting, value), model.set(setting, value));
        }
        if (drawYes(80)) {
            putText(course());
            read();
        }
        if (drawYes(8)) {
            growOld();
        }
        while (calls.size() + CALLS_OF_A_CHANGE + QUESTIONS_BEHIND_A_CHANGE <= CALLS && wrong == 0) {
            change();
            for (int k = 0; k < QUESTIONS_BEHIND_A_CHANGE; k++) {
                ask();
            }
        }
        while (calls.size() < CALLS && wrong == 0) {
            ask();
        }
    }

    /** Brings the river near the last year, which few runs would come to. */
    private void growOld() {
        for (int k = 0; k < 19; k++) {
            pass(50);
        }
        pass(draw(30, 49));
    }

    private void pass(int years) {
        due(5, "pass " + years, program.pass(years), model.pass(years));
    }

    private void read() {
        due(1, "read", program.read(), model.read());
    }

    private void change() {
        int kind = draw(100);
        if (kind < 8) {
            int setting = draw(-1, 4);
            int value = drawYes(80) ? draw(1, 9) : draw(-1, 62);
            due(0, "set " + setting + " " + value, program.set(setting, value), model.set(setting, value));
        } else if (kind < 14) {
            changeText();
        } else if (kind < 24) {
            int x = draw(-1, 20);
            int y = draw(-1, 12);
            boolean isBuilt = drawYes(60);
            due(2, "dike " + x + " " + y + " " + isBuilt, program.dike(x, y, isBuilt), model.dike(x, y, isBuilt));
        } else if (kind < 36) {
            int floods = isWet ? draw(1, 4) : 1;
            for (int k = 0; k < floods; k++) {
                flood();
            }
        } else if (kind < 46) {
            int neck = draw(-1, model.now.necks().size());
            due(4, "cut " + neck, program.cut(neck), model.cut(neck));
        } else if (kind < 80) {
            pass(drawYes(90) ? draw(1, 3) : draw(-1, 51));
        } else if (kind < 88) {
            due(19, "undo", program.undo(), model.undo());
        } else if (kind < 93) {
            int slot = draw(-1, 2);
            due(20, "save " + slot, program.save(slot), model.save(slot));
        } else if (kind < 97) {
            int slot = draw(-1, 2);
            due(21, "restore " + slot, program.restore(slot), model.restore(slot));
        } else {
            putText(course());
            read();
        }
    }

    private void flood() {
        int year = drawYes(95) ? model.now.year + draw(-1, isWet ? 16 : 6) : draw(-1, 1001);
        boolean isFlood = drawYes(70);
        due(3, "flood " + year + " " + isFlood, program.flood(year, isFlood), model.flood(year, isFlood));
    }

    private void changeText() {
        int kind = draw(10);
        if (kind < 2) {
            due(17, "wipe", program.wipe(), model.wipe());
        } else if (kind < 4) {
            long characters = (long) draw(1 << 30) << draw(40) ^ draw(1 << 30);
            due(16, "put " + characters, program.put(characters), model.put(characters));
        } else if (kind < 8) {
            putText(spoiled(course()));
            read();
        } else {
            read();
        }
        due(18, "fault", program.fault(), model.fault());
    }

    private void putText(String text) {
        due(17, "wipe", program.wipe(), model.wipe());
        int k = 0;
        while (k < text.length()) {
            long characters = 0;
            int end = Math.min(text.length(), k + draw(1, 8));
            for (; k < end; k++) {
                characters = characters << 8 | text.charAt(k);
            }
            due(16, "put " + characters, program.put(characters), model.put(characters));
        }
        due(18, "fault of " + text, program.fault(), model.fault());
    }

    private String spoiled(String text) {
        StringBuilder spoiled = new StringBuilder(text);
        int place = draw(text.length());
        switch (draw(3)) {
            case 0 -> spoiled.setCharAt(place, "0123456789,:ruldx/".charAt(draw(18)));
            case 1 -> spoiled.insert(place, "0123456789,:ruld".charAt(draw(16)));
            default -> spoiled.setLength(place);
        }
        return spoiled.toString();
    }

    /** Draws a text of a course that winds much, mostly one that the land has room for. */
    private String course() {
        if (drawYes(15)) {
            return snake();
        }
        if (drawYes(15)) {
            return comb();
        }
        Model.Cell cell = new Model.Cell(draw(0, 19), draw(0, 11));
        List<Model.Cell> seen = new ArrayList<>(List.of(cell));
        StringBuilder text = new StringBuilder(cell.x() + "," + cell.y() + ":");
        int longest = draw(1, 5);
        for (int k = 0; k < 60 && text.length() <= 60; k++) {
            int way = draw(4);
            int steps = draw(1, longest);
            int walked = 0;
            for (int s = 0; s < steps; s++) {
                Model.Cell next = cell.step(way);
                if (!next.isOnLand() || seen.contains(next)) {
                    break;
                }
                seen.add(next);
                cell = next;
                walked++;
            }
            if (walked > 0) {
                text.append("ruld".charAt(way)).append(walked > 1 ? String.valueOf(walked) : "");
            }
        }
        if (text.charAt(text.length() - 1) == ':') {
            text.append("r");
        }
        return text.toString();
    }

    /** Rows to and fro, close to each other: many necks, and as many cells as a course may have, or too many. */
    private String snake() {
        int left = draw(0, 3);
        int wide = draw(9, 18 - left);
        int rows = drawYes(80) ? draw(2, 8) : draw(8, 12);
        StringBuilder text = new StringBuilder(left + "," + draw(0, 3) + ":");
        for (int row = 0; row < rows; row++) {
            String way = row % 2 == 0 ? "r" : "l";
            int rest = wide;
            while (rest > 0) {
                int steps = Math.min(9, rest);
                text.append(way).append(steps > 1 ? String.valueOf(steps) : "");
                rest -= steps;
            }
            text.append("u");
        }
        return text.toString();
    }

    /** Narrow loops side by side, there and back: more necks that can be cut one by one than there may be oxbows. */
    private String comb() {
        StringBuilder text = new StringBuilder("0," + draw(1, 3) + ":");
        String loop = drawYes(50) ? "urdr" : "u2rd2r";
        for (int k = draw(6, 9); k > 0; k--) {
            text.append(loop);
        }
        text.append("u").append(draw(4, 5));
        for (int k = draw(6, 9); k > 0 && text.length() < 60; k--) {
            text.append("uldl");
        }
        return text.toString();
    }

    private void ask() {
        int kind = draw(100);
        if (kind < 4) {
            int years = drawYes(90) ? draw(1, 12) : draw(-1, 52);
            int what = draw(-1, 4);
            due(13, "ifPassed " + years + " " + what, program.ifPassed(years, what), model.ifPassed(years, what));
        } else if (kind < 7) {
            int what = draw(-1, 2);
            due(14, "nextCut " + what, program.nextCut(what), model.nextCut(what));
        } else if (kind < 10) {
            taken();
        } else if (kind < 15) {
            int year = drawYes(95) ? model.now.year + draw(-8, 8) : draw(-1, 1000);
            due(12, "isFlood " + year, program.isFlood(year), model.isFlood(year));
        } else if (kind < 35) {
            int what = draw(-1, 18);
            due(11, "count " + what, program.count(what), model.count(what));
        } else {
            askOfAPlace(kind);
        }
    }

    /** Asks of a bank's cell rather than of one that the river is far from. */
    private void taken() {
        List<Model.Bend> bends = model.now.bends();
        Model.Cell cell = new Model.Cell(draw(-1, 20), draw(-1, 12));
        if (!bends.isEmpty() && drawYes(60)) {
            List<Model.Cell> bank = model.now.bank(bends.get(draw(bends.size())));
            cell = bank.get(draw(bank.size()));
        }
        due(15, "taken " + cell, program.taken(cell.x(), cell.y()), model.taken(cell.x(), cell.y()));
    }

    private void askOfAPlace(int kind) {
        if (kind < 55) {
            int x = draw(-1, 20);
            int y = draw(-1, 12);
            int what = draw(-1, 4);
            due(6, "cell " + x + " " + y + " " + what, program.cell(x, y, what), model.cell(x, y, what));
        } else if (kind < 65) {
            int number = draw(-1, model.now.course.size());
            int what = draw(-1, 3);
            due(7, "course " + number + " " + what, program.course(number, what), model.course(number, what));
        } else if (kind < 78) {
            int number = draw(-1, model.now.bends().size());
            int what = draw(-1, 6);
            due(8, "bend " + number + " " + what, program.bend(number, what), model.bend(number, what));
        } else if (kind < 90) {
            int number = draw(-1, model.now.necks().size());
            int what = draw(-1, 3);
            due(9, "neck " + number + " " + what, program.neck(number, what), model.neck(number, what));
        } else {
            int number = draw(-1, model.now.oxbows.size());
            int what = draw(-1, 4);
            due(10, "oxbow " + number + " " + what, program.oxbow(number, what), model.oxbow(number, what));
        }
    }
}

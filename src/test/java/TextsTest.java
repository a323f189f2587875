/** The sentences under "Texts" and those of promises 18 to 20 that name a boundary case, a test for each. */
public final class TextsTest extends Checks {
    public static void main(String[] args) {
        runAll(TextsTest.class);
    }

    private static void dueFault(String text, int want) {
        OxbowReaches x = new OxbowReaches();
        putText(x, text);
        due("count(16) of '" + text + "'", x.count(16), text.length());
        due("fault of '" + text + "'", x.fault(), want);
        due("fault of '" + text + "', asked again", x.fault(), want);
    }

    // ---- the text

    static void thePadHasAtMost64Characters() {
        sentence("The pad is a text of at most 64 characters, a course");
        OxbowReaches x = new OxbowReaches();
        putText(x, "10,10:" + "r".repeat(57));
        due(x.count(16), 63);
        due(x.put(packed("rr")), TOO_MANY);
        due(x.put('r'), 64);
        due(x.put('r'), TOO_MANY);
        due(x.count(16), 64);
        due(x.fault(), NONE);
        // Its last character is read, too: it is a step, or a digit, or a fault.
        x = new OxbowReaches();
        due(readText(x, "0,0:" + "rudr".repeat(14) + "rudx"), BAD_TEXT);
        due(x.fault(), 63);
        String longText = "0,0:" + "r".repeat(15) + "u".repeat(10) + "l".repeat(15) + "d".repeat(8) + "rrrruuuurr";
        due(longText.length(), 62);
        due(readText(x, longText + "rd"), 61);
        dueCourse(x, 59, 7, 6, 7, 5);
        due(readText(x, longText + "d3"), 62);
        dueCourse(x, 59, 6, 5, 6, 4, 6, 3);
    }

    static void theNumbersAreXAndY() {
        sentence("The numbers are the x (0 to 19) and the y (0 to 11) of the first cell, without leading zeros");
        for (int k = 0; k <= 19; k++) {
            OxbowReaches x = river(k + ",0:u");
            dueCourse(x, 0, k, 0, k, 1);
        }
        for (int k = 0; k <= 11; k++) {
            OxbowReaches x = river("0," + k + ":r");
            dueCourse(x, 0, 0, k, 1, k);
        }
        dueFault("20,0:u", 1);
        dueFault("21,0:u", 1);
        dueFault("29,0:u", 1);
        dueFault("30,0:u", 1);
        dueFault("99,0:u", 1);
        dueFault("0,12:r", 3);
        dueFault("0,13:r", 3);
        dueFault("0,19:r", 3);
        dueFault("0,20:r", 3);
        dueFault("0,99:r", 3);
        dueFault("00,0:u", 1);
        dueFault("01,0:u", 1);
        dueFault("09,0:u", 1);
        dueFault("019,0:u", 1);
        dueFault("0,00:r", 3);
        dueFault("0,01:r", 3);
        dueFault("0,09:r", 3);
        dueFault("0,011:r", 3);
        dueFault("-1,0:u", 0);
        dueFault("+1,0:u", 0);
        dueFault("0,-1:u", 2);
        dueFault("190,0:u", 2);
        dueFault("100,0:u", 2);
        dueFault("0,110:u", 4);
        dueFault("0,100:u", 4);
    }

    static void theFormOfATextIsACourse() {
        sentence("text = number \",\" number \":\" steps { steps }; steps = way [ digit ].");
        dueFault("5,5:r", NONE);
        dueFault("5,5:r2", NONE);
        dueFault("5,5:ruld", NONE);
        dueFault("5,5:r2u3l4d9", NONE);
        dueFault("5,5:rr", NONE);
        dueFault("5,5:r2r2", NONE);
        dueFault(",5:r", 0);
        dueFault(":5,r", 0);
        dueFault("r", 0);
        dueFault("5:5,r", 1);
        dueFault("5r", 1);
        dueFault("5.5:r", 1);
        dueFault("5;5:r", 1);
        dueFault("5,,5:r", 2);
        dueFault("5,:r", 2);
        dueFault("5,r", 2);
        dueFault("5,5,r", 3);
        dueFault("5,5;r", 3);
        dueFault("5,5r", 3);
        dueFault("5,5::r", 4);
        dueFault("5,5:,r", 4);
        dueFault("5,5:2r", 4);
        dueFault("5,5:r,", 5);
        dueFault("5,5:r:", 5);
        dueFault("5,5:r2,", 6);
        dueFault("5,5:r2;u", 6);
        dueFault("5,5:r!", 5);
        dueFault("5,5:r~", 5);
        dueFault("!", 0);
        dueFault("~", 0);
        dueFault("/,5:r", 0);
        dueFault(":,5:r", 0);
        dueFault("1/,5:r", 1);
    }

    static void aWayIsOneOfFourLetters() {
        sentence("a way is \"r\", \"u\", \"l\" or \"d\"");
        for (char sign = 33; sign <= 126; sign++) {
            dueFault("9,9:" + sign, "ruld".indexOf(sign) >= 0 ? NONE : 4);
            boolean isNext = "ruld".indexOf(sign) >= 0 || "23456789".indexOf(sign) >= 0;
            dueFault("9,9:u" + sign, isNext ? NONE : 5);
        }
        dueCourse(river("9,5:r"), 0, 9, 5, 10, 5);
        dueCourse(river("9,5:u"), 0, 9, 5, 9, 6);
        dueCourse(river("9,5:l"), 0, 9, 5, 8, 5);
        dueCourse(river("9,5:d"), 0, 9, 5, 9, 4);
    }

    static void aDigitIs2To9() {
        sentence("a digit is 2 to 9: so many steps of this way (1 without it).");
        dueFault("0,0:r0", 5);
        dueFault("0,0:r1", 5);
        due(readNew("0,0:r"), 2);
        for (int k = 2; k <= 9; k++) {
            due(readNew("0,0:r" + k), k + 1);
            due(readNew("0,0:r" + k + "ul"), k + 3);
        }
        dueFault("0,0:r22", 6);
        dueFault("0,0:r10", 5);
        dueFault("0,0:r20", 6);
        dueFault("0,0:r9u0", 7);
        dueFault("0,0:r9u1", 7);
        dueFault("0,0:r9u9", NONE);
    }

    static void theFaultIsTheFirstThatCannotStand() {
        sentence("The fault is the index of the first character that cannot stand at its place "
            + "when the text is read from left to right (also of a digit by which a number would be too great; "
            + "where the course goes does not matter)");
        // Each place of a text in its turn, with one more fault behind it.
        String text = "19,11:r2ul";
        for (int k = 0; k < text.length(); k++) {
            dueFault(text.substring(0, k) + "x" + text.substring(k + 1), k);
            dueFault(text.substring(0, k) + "xx", k);
        }
        dueFault("20,12:r1", 1);
        dueFault("19,12:r1", 4);
        dueFault("19,11:r1", 7);
        // Where the course goes does not matter, nor how long it is.
        dueFault("0,0:l", NONE);
        dueFault("19,11:u9r9", NONE);
        dueFault("5,5:ruldruld", NONE);
        dueFault("0,0:" + "r9".repeat(30), NONE);
    }

    static void aTextThatEndsTooEarly() {
        sentence("if there is none and the text ends too early (also if it is empty), it is the length of the text.");
        dueFault("", 0);
        String text = "19,11:r";
        for (int k = 0; k < text.length(); k++) {
            dueFault(text.substring(0, k), k);
        }
        dueFault(text, NONE);
        dueFault("0", 1);
        dueFault("0,", 2);
        dueFault("0,0", 3);
        dueFault("0,0:", 4);
        dueFault("0,0:r", NONE);
        // The end of what was in the pad earlier does not stand in it any more.
        OxbowReaches x = new OxbowReaches();
        putText(x, "19,11:lllll");
        x.wipe();
        due(x.fault(), 0);
        putText(x, "19,11:");
        due(x.fault(), 6);
        putText(x, "19");
        due(x.fault(), 2);
        x.put(packed(",3:d"));
        due(x.fault(), NONE);
    }

    // ---- promise 18

    static void putHasTheLastCharacterLowest() {
        sentence("They are given as a number: its lowest 8 bits are the last character, "
            + "the next 8 bits the one before, and so on");
        OxbowReaches x = new OxbowReaches();
        due(x.put('3' << 24 | ',' << 16 | '4' << 8 | ':'), 4);
        due(x.put('r' << 8 | '2'), 6);
        due(x.put('u'), 7);
        due(x.read(), 4);
        dueCourse(x, 0, 3, 4, 4, 4, 5, 4, 5, 5);
        due(x.put(packed("3,4:r2ud")), 8);
        due(x.read(), NOT_POSSIBLE);
        due(x.wipe(), 8);
        due(x.put(packed("3,4:r2ul")), 8);
        due(x.read(), 5);
        dueCourse(x, 3, 5, 5, 4, 5);
    }

    static void putOfZeroBits() {
        sentence("8 bits that are 0 mean that there are no more characters, and everything above "
            + "them has to be 0, too.");
        OxbowReaches x = new OxbowReaches();
        for (int bit = 8; bit < 64; bit++) {
            due(x.put(1L << bit), BAD_VALUE);
        }
        for (int bit = 16; bit < 64; bit++) {
            due(x.put(1L << bit | 'r'), BAD_VALUE);
        }
        for (int bit = 24; bit < 64; bit++) {
            due(x.put(1L << bit | 'r' << 8 | 'r'), BAD_VALUE);
        }
        for (int shift = 16; shift <= 56; shift += 8) {
            due(x.put((long) 'r' << shift | 'r'), BAD_VALUE);
            due(x.put((long) 'r' << shift), BAD_VALUE);
        }
        due(x.put((long) 'r' << 56 | packed("rrrrrr")), BAD_VALUE);
        due(x.put(Long.MIN_VALUE | packed("rrrrrr")), BAD_VALUE);
        due(x.count(16), 0);
    }

    static void putOf1To8Characters() {
        sentence("- `characters`: 1 to 8 characters");
        OxbowReaches x = new OxbowReaches();
        due(x.put(0), BAD_VALUE);
        String text = "0,0:rrrr";
        int length = 0;
        for (int k = 1; k <= 8; k++) {
            length += k;
            due(x.put(packed(text.substring(0, k))), length);
        }
        x.wipe();
        due(x.put(packed(text)), 8);
        due(x.read(), 5);
    }

    static void putOfAWrongCode() {
        sentence("BAD_VALUE if there is no character, a code is not 33 to 126, or a bit above 8 "
            + "bits that are 0 is not 0");
        for (int code = 0; code <= 255; code++) {
            OxbowReaches x = new OxbowReaches();
            boolean isRight = code >= 33 && code <= 126;
            due(x.put(code), isRight ? 1 : BAD_VALUE);
            due(x.count(16), isRight ? 1 : 0);
            x.wipe();
            // At each of eight places: with zeros in the highest places there are fewer characters.
            for (int place = 0; place < 8; place++) {
                long characters = packed("rrrrrrrr") & ~(255L << 8 * place) | (long) code << 8 * place;
                boolean isTaken = isRight || code == 0 && place == 7;
                due(x.put(characters), isTaken ? code == 0 ? 7 : 8 : BAD_VALUE);
                due(x.wipe(), isTaken ? code == 0 ? 7 : 8 : 0);
            }
        }
        OxbowReaches x = new OxbowReaches();
        dueEach(BAD_VALUE, x.put(-1L), x.put(Long.MIN_VALUE), x.put(Long.MAX_VALUE), x.put(Integer.MIN_VALUE));
        due(x.count(16), 0);
    }

    static void putOfMoreThan64() {
        sentence("TOO_MANY if the pad would be longer than 64.");
        for (int size = 1; size <= 8; size++) {
            OxbowReaches x = new OxbowReaches();
            putText(x, "x".repeat(64 - size));
            due(x.count(16), 64 - size);
            if (size < 8) {
                due(x.put(packed("y".repeat(size + 1))), TOO_MANY);
            }
            due(x.count(16), 64 - size);
            due(x.put(packed("y".repeat(size))), 64);
            dueEach(TOO_MANY, x.put('y'), x.put(packed("yyyyyyyy")));
            due(x.count(16), 64);
        }
    }

    static void errorsOfPutInTheirOrder() {
        sentence("or a bit above 8 bits that are 0 is not 0; TOO_MANY if the pad would be longer than 64.");
        OxbowReaches x = new OxbowReaches();
        putText(x, "x".repeat(64));
        dueEach(BAD_VALUE, x.put(0), x.put(32), x.put(127),
            x.put(1L << 40 | 'r'), x.put(packed("rrrrrrr ")), x.put(-1L));
        dueEach(TOO_MANY, x.put('r'), x.put(33), x.put(126));
        due(x.count(16), 64);
    }

    // ---- promise 19

    static void wipeEmptiesThePad() {
        sentence("Empties the pad, and returns the length that it had.");
        OxbowReaches x = new OxbowReaches();
        due(x.wipe(), 0);
        due(x.wipe(), 0);
        putText(x, "x".repeat(64));
        due(x.wipe(), 64);
        dueCounts(x, 16, 0, 0);
        due(x.wipe(), 0);
        due(x.put('x'), 1);
        due(x.wipe(), 1);
        due(x.fault(), 0);
        // A full pad that was wiped can be filled again.
        putText(x, "x".repeat(64));
        due(x.count(16), 64);
    }

    // ---- promise 20

    static void faultOfThePad() {
        sentence("Returns the fault of the pad, NONE if there is none.");
        OxbowReaches x = new OxbowReaches();
        due(x.fault(), 0);
        putText(x, "1,1:r");
        due(x.fault(), NONE);
        x.put('1');
        due(x.fault(), 5);
        x.put(packed("uuu"));
        due(x.fault(), 5);
        due(x.count(16), 9);
        // The pad stays as it is, and so does the river.
        due(x.count(0), 20);
        due(x.count(17), 0);
    }
}

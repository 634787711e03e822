import java.util.NoSuchElementException;
import java.util.function.IntSupplier;

/** Each promise of the document: ordinary calls, its edges, and wrong calls with what they throw. */
public final class PromisesTest {
    private static final int NONE = PuzzlePress.NONE;
    private static final Class<?> ARGUMENT = IllegalArgumentException.class;
    private static final Class<?> STATE = IllegalStateException.class;
    private static final Class<?> INDEX = IndexOutOfBoundsException.class;
    private static final Class<?> UNSUPPORTED = UnsupportedOperationException.class;
    private static final Class<?> NO_ELEMENT = NoSuchElementException.class;
    private static final int[] EXTREMES = {Integer.MIN_VALUE, Integer.MAX_VALUE};

    /** A picture of grade 2: the clues of its lines, and the steps that lead to its filling. */
    private static final int[] HARD_CLUES = {12, 11, 11, 3, 1, 11, 2, 11, 12, 11};
    private static final int[] HARD_PICTURE_STEPS = {
        1030, 1081, 1170, 1121, 1180, 1151, 1221, 2000, 1011, 1051, 1090, 1041, 1020, 1071, 1060, 1110, 1101, 1141,
        1130, 1161, 1190, 1200, 1211, 1231, 1241, 0};
    /** A square of grade 2: the groups of its cells; hardSquare() has the rules. */
    private static final int[] HARD_SQUARE_GROUPS = {0, 0, 2, 2, 0, 1, 3, 2, 8, 8, 10, 10, 9, 8, 10, 11};
    private static final int[] HARD_SQUARE_STEPS = {
        1004, 1014, 1021, 1031, 1044, 1071, 1084, 1094, 1102, 1112, 1121, 1122, 1123, 1134, 1051, 1052, 1053, 1064,
        1074, 1142, 1144, 1154, 2002, 2003, 1011, 1041, 1062, 1023, 1024, 1012, 1032, 1033, 1043, 1063, 1072, 1081,
        1082, 1091, 1093, 1101, 1103, 1113, 1114, 1132, 1133, 1141, 1151, 1153, 0};
    /** Stars of grade 2, where rule 1 takes nothing at first: the groups of the cells. */
    private static final int[] HARD_STARS_GROUPS = {
        0, 0, 0, 0, 0, 0, 0, 1, 1, 1, 0, 3, 1, 1, 2, 3, 3, 3, 4, 2, 3, 3, 3, 4, 4};
    private static final int[] HARD_STARS_STEPS = {
        2021, 2031, 2041, 2051, 2061, 2081, 2000, 1011, 1101, 1151, 1201, 2070, 1091, 1111, 1121, 1131, 1140, 1171,
        1181, 1191, 1160, 1211, 1221, 1230, 1241, 0};

    private static int wrong = 0;

    private PromisesTest() {
    }

    public static void main(String[] args) {
        newObject();
        open();
        openForgets();
        clue();
        clueConditions();
        group();
        groupConditions();
        starsThatTouch();
        rule();
        ruleConditions();
        widestSquare();
        give();
        given();
        fillings();
        value();
        fresh();
        whatMakesFresh();
        reason();
        candidates();
        step();
        stepToNothing();
        grade();
        full();
        thin();
        thinOrder();
        System.out.println(wrong == 0 ? "all promises hold" : wrong + " answers are not as promised");
        if (wrong != 0) {
            System.exit(1);
        }
    }

    private static void due(String what, int got, int want) {
        if (got != want) {
            wrong++;
            System.out.println(what + " answered " + got + ", due is " + want);
        }
    }

    /** Makes a call that must throw; that it changes nothing is RefusalTest's, which takes more calls. */
    private static void dueThrow(String what, Class<?> want, IntSupplier call) {
        String got;
        try {
            got = "answered " + call.getAsInt();
        } catch (RuntimeException e) {
            got = e.getClass() == want ? "" : "threw " + e;
        }
        if (!got.isEmpty()) {
            wrong++;
            System.out.println(what + " " + got + ", due is " + want.getSimpleName());
        }
    }

    private static int cellsOf(PuzzlePress press) {
        return press.kind() == 1 ? 16 : 25;
    }

    private static int totalOf(PuzzlePress press) {
        int total = 0;
        for (int cell = 0; cell < cellsOf(press); cell++) {
            total += Integer.bitCount(press.candidates(cell));
        }
        return total;
    }

    private static PuzzlePress opened(int kind) {
        PuzzlePress press = new PuzzlePress();
        press.open(kind);
        return press;
    }

    private static PuzzlePress picture(int... clues) {
        PuzzlePress press = new PuzzlePress();
        for (int line = 0; line < clues.length; line++) {
            press.clue(line, clues[line]);
        }
        return press;
    }

    private static PuzzlePress grouped(int kind, int... groups) {
        PuzzlePress press = opened(kind);
        for (int cell = 0; cell < groups.length; cell++) {
            press.group(cell, groups[cell]);
        }
        return press;
    }

    private static PuzzlePress hardSquare() {
        PuzzlePress press = grouped(1, HARD_SQUARE_GROUPS);
        press.rule(0, 2, 6);
        press.rule(2, 2, 24);
        press.rule(8, 2, 6);
        press.rule(10, 1, 8);
        return press;
    }

    /** Two fillings: cells 0 and 6, or cells 1 and 5. */
    private static PuzzlePress twoWays() {
        return picture(1, 1, 0, 0, 0, 1, 1);
    }

    private static void newObject() {
        PuzzlePress press = new PuzzlePress();
        due("1: kind() of a new object", press.kind(), 0);
        due("1: fillings() of a new object", press.fillings(), 1);
        due("1: candidates of a new object", totalOf(press), 50);
        for (int cell = 0; cell < 25; cell++) {
            due("1: given(" + cell + ") of a new object", press.given(cell), -1);
            due("1: value(" + cell + ") of a new object", press.value(cell), 0);
        }
        for (int line = 0; line < 10; line++) {
            due("1: the clue of line " + line, press.clue(line, 5), 0);
        }
        due("1: a new object is not the old one", new PuzzlePress().clue(3, 0), 0);
        due("1: NONE", PuzzlePress.NONE, -1);
    }

    private static void open() {
        PuzzlePress press = new PuzzlePress();
        due("2: open(1)", press.open(1), 16);
        due("3: kind() behind open(1)", press.kind(), 1);
        for (int k = 0; k < 16; k++) {
            due("2: cells of group " + k, press.rule(k, 0, 0), 1);
            due("2: the group of cell " + k, press.group(k, k), k);
        }
        due("2: open(2)", press.open(2), 25);
        due("3: kind() behind open(2)", press.kind(), 2);
        for (int k = 0; k < 25; k++) {
            due("2: the group of cell " + k, press.group(k, 4 - k / 5), k / 5);
        }
        due("2: open(0)", press.open(0), 25);
        due("3: kind() behind open(0)", press.kind(), 0);
        for (int kind = 0; kind <= 2; kind++) {
            press.open(kind);
            press.give(0, 1);
            press.reason(1);
            dueThrow("2: open(-1)", ARGUMENT, () -> press.open(-1));
            dueThrow("2: open(3)", ARGUMENT, () -> press.open(3));
            dueThrow("2: open(the least)", ARGUMENT, () -> press.open(EXTREMES[0]));
            dueThrow("2: open(the greatest)", ARGUMENT, () -> press.open(EXTREMES[1]));
            due("3: kind() behind a wrong open", press.kind(), kind);
        }
    }

    /** What was there before, of the same kind too, is gone. */
    private static void openForgets() {
        PuzzlePress press = picture(5, 5, 5, 5, 5, 5, 5, 5, 5, 5);
        press.give(24, 1);
        press.open(0);
        due("2: fillings() behind open(0)", press.fillings(), 1);
        due("2: given(24) behind open(0)", press.given(24), NONE);
        due("2: value(0) behind open(0)", press.value(0), 0);
        due("2: clue behind open(0)", press.clue(9, 1), 0);
        press.open(1);
        press.group(1, 0);
        press.rule(0, 1, 3);
        press.rule(7, 2, 3);
        press.give(15, 4);
        press.reason(2);
        press.open(1);
        due("2: candidates behind open(1)", totalOf(press), 64);
        due("2: given(15) behind open(1)", press.given(15), NONE);
        due("2: reason(1) behind open(1)", press.reason(1), 64);
        due("2: cells of group 0 behind open(1)", press.rule(0, 0, 0), 1);
        due("2: cells of group 1 behind open(1)", press.rule(1, 0, 0), 1);
        due("2: value(7) behind open(1)", press.value(7), 3);
        press.open(2);
        press.group(0, 4);
        press.group(7, 4);
        press.group(24, 0);
        press.give(0, 1);
        press.open(2);
        due("2: the group of cell 0 behind open(2)", press.group(0, 0), 0);
        due("2: the group of cell 7 behind open(2)", press.group(7, 1), 1);
        due("2: the group of cell 24 behind open(2)", press.group(24, 4), 4);
        due("2: given(0) behind open(2)", press.given(0), NONE);
        press.open(1);
        due("2: candidates behind open(2) and open(1)", press.fresh(), 64);
    }

    private static void clue() {
        int[] clues = {0, 1, 2, 3, 4, 5, 11, 12, 13, 21, 22, 31, 111};
        PuzzlePress press = new PuzzlePress();
        for (int line = 0; line < 10; line++) {
            int before = 0;
            for (int clue : clues) {
                due("4: clue(" + line + ", " + clue + ")", press.clue(line, clue), before);
                before = clue;
            }
        }
        press.open(0);
        press.reason(1);
        for (int clue = -20; clue < 300; clue++) {
            int tried = clue;
            if (java.util.Arrays.binarySearch(clues, clue) < 0) {
                dueThrow("4: clue(0, " + clue + ")", ARGUMENT, () -> press.clue(0, tried));
            }
        }
        for (int line : new int[] {-1, 10, 25, EXTREMES[0], EXTREMES[1]}) {
            dueThrow("4: clue(" + line + ", 1)", INDEX, () -> press.clue(line, 1));
            dueThrow("4: clue(" + line + ", 6)", INDEX, () -> press.clue(line, 6));
        }
        for (int extreme : EXTREMES) {
            dueThrow("4: clue(9, " + extreme + ")", ARGUMENT, () -> press.clue(9, extreme));
        }
        for (int kind = 1; kind <= 2; kind++) {
            PuzzlePress other = opened(kind);
            other.give(0, 1);
            other.reason(1);
            dueThrow("4: clue(0, 1) in kind " + kind, STATE, () -> other.clue(0, 1));
            dueThrow("4: clue(10, 6) in kind " + kind, STATE, () -> other.clue(10, 6));
        }
    }

    /** Each clue in row 2, with columns that fit one place of its stretches alone. */
    private static void clueConditions() {
        int[][] rows = {
            {0, 0b00000}, {1, 0b00100}, {2, 0b00110}, {3, 0b01110}, {4, 0b11110}, {5, 0b11111}, {11, 0b10010},
            {12, 0b10110}, {12, 0b01011}, {13, 0b10111}, {21, 0b11010}, {21, 0b11001}, {22, 0b11011}, {31, 0b11101},
            {111, 0b10101}};
        for (int[] row : rows) {
            PuzzlePress across = picture(0, 0, row[0]);
            PuzzlePress down = picture(0, 0, 0, 0, 0, 0, 0, row[0]);
            for (int place = 0; place < 5; place++) {
                int is = row[1] >> (4 - place) & 1;
                across.clue(5 + place, is);
                down.clue(place, is);
            }
            due("4: fillings() with clue " + row[0] + " in a row", across.fillings(), 1);
            due("4: fillings() with clue " + row[0] + " in a column", down.fillings(), 1);
            for (int place = 0; place < 5; place++) {
                int is = row[1] >> (4 - place) & 1;
                due("4: clue " + row[0] + " in a row, place " + place, across.value(10 + place), is);
                due("4: clue " + row[0] + " in a column, place " + place, down.value(5 * place + 2), is);
            }
        }
        // The figures stand in the order of the stretches: 2 before 1 does not fit columns that ask for 1 before 2.
        due("4: fillings() with the figures turned", picture(0, 0, 21, 0, 0, 1, 0, 1, 1, 0).fillings(), 0);
        // Stretches do not touch.
        due("4: fillings() with 11 in two neighbours", picture(11, 0, 0, 0, 0, 1, 1).fillings(), 0);
    }

    private static void group() {
        PuzzlePress square = opened(1);
        due("5: group(1, 0)", square.group(1, 0), 1);
        due("5: group(4, 0)", square.group(4, 0), 4);
        due("5: group(15, 0)", square.group(15, 0), 15);
        dueThrow("5: a fifth cell", UNSUPPORTED, () -> square.group(2, 0));
        due("5: one of the four again", square.group(15, 0), 0);
        due("5: one of the four leaves", square.group(4, 15), 0);
        due("5: another comes", square.group(2, 0), 2);
        due("5: cells of group 0", square.rule(0, 0, 0), 4);
        due("5: cells of group 15", square.rule(15, 0, 0), 1);
        due("5: cells of group 4", square.rule(4, 0, 0), 0);
        square.give(0, 1);
        square.reason(1);
        for (int no : new int[] {-1, 16, 24, 32, 33, EXTREMES[0], EXTREMES[1]}) {
            dueThrow("5: group(" + no + ", 0)", INDEX, () -> square.group(no, 0));
            dueThrow("5: group(3, " + no + ")", INDEX, () -> square.group(3, no));
        }
        dueThrow("5: a fifth cell again", UNSUPPORTED, () -> square.group(3, 0));
        PuzzlePress stars = opened(2);
        for (int cell = 0; cell < 25; cell++) {
            due("5: group(" + cell + ", 3)", stars.group(cell, 3), cell / 5);
        }
        due("5: group(24, 4)", stars.group(24, 4), 3);
        stars.reason(1);
        for (int no : new int[] {-1, 5, 16, EXTREMES[0], EXTREMES[1]}) {
            dueThrow("5: group(0, " + no + ")", INDEX, () -> stars.group(0, no));
        }
        for (int no : new int[] {-1, 25, 32, EXTREMES[0], EXTREMES[1]}) {
            dueThrow("5: group(" + no + ", 0)", INDEX, () -> stars.group(no, 0));
        }
        PuzzlePress picture = twoWays();
        picture.reason(1);
        dueThrow("5: group(0, 0) in a picture", STATE, () -> picture.group(0, 0));
        dueThrow("5: group(25, 16) in a picture", STATE, () -> picture.group(25, 16));
    }

    private static void groupConditions() {
        PuzzlePress square = grouped(1, 0, 1, 2, 3, 4, 0);
        square.give(0, 1);
        due("5: cells 0 and 5 of one group", square.reason(1), 64 - 3 - 6 - 1);
        due("5: candidates(5) in the group of cell 0", square.candidates(5), 0b11100);
        due("5: candidates(6) in no group of cell 0", square.candidates(6), 0b11110);
        square.give(5, 1);
        due("5: two alike in a group", square.fillings(), 0);
        due("5: a group of which two are alike", square.reason(1), 0);
        // The other groups have no cells, and then are no units.
        PuzzlePress one = grouped(2, 3, 3, 3, 3, 3, 3, 3, 3, 3, 3, 3, 3, 3, 3, 3, 3, 3, 3, 3, 3, 3, 3, 3, 3, 3);
        due("5: all stars in one group", one.fillings(), 0);
        due("5: reason(1) with all stars in one group", one.reason(1), 50);
        due("5: reason(2) with all stars in one group", one.reason(2), 0);
        PuzzlePress two = opened(2);
        two.give(7, 1);
        due("5: a star at 7", two.reason(1), 50 - 1 - 4 - 4 - 4);
        for (int cell : new int[] {1, 2, 3, 6, 8, 11, 12, 13, 5, 9, 17, 22}) {
            due("5: candidates(" + cell + ") beside a star at 7", two.candidates(cell), 1);
        }
        for (int cell : new int[] {0, 4, 10, 14, 15, 16, 18, 19, 20, 24}) {
            due("5: candidates(" + cell + ") apart from a star at 7", two.candidates(cell), 3);
        }
        due("5: group(24, 1) with a star at 7", two.group(24, 1), 4);
        two.reason(1);
        due("5: candidates(24) in the group of the star at 7", two.candidates(24), 1);
    }

    /** With one star given, rule 1 clears its row, its column and what touches it. */
    private static void starsThatTouch() {
        for (int star = 0; star < 25; star++) {
            PuzzlePress press = opened(2);
            press.give(star, 1);
            press.reason(1);
            for (int cell = 0; cell < 25; cell++) {
                int down = Math.abs(cell / 5 - star / 5);
                int across = Math.abs(cell % 5 - star % 5);
                boolean clear = down == 0 || across == 0 || down == 1 && across == 1;
                int want = cell == star ? 0b10 : clear ? 0b01 : press.candidates(cell);
                due("12: candidates(" + cell + ") with a star at " + star, press.candidates(cell), want);
            }
        }
        PuzzlePress press = opened(2);
        press.give(0, 1);
        due("12: reason(1) with a star at 0", press.reason(1), 40);
    }

    private static void rule() {
        PuzzlePress square = grouped(1, 0, 0, 0, 3, 0);
        due("6: rule(0, 1, 99)", square.rule(0, 1, 99), 4);
        due("6: rule(1, 1, 0)", square.rule(1, 1, 0), 0);
        due("6: rule(15, 2, 0)", square.rule(15, 2, 0), 1);
        due("6: rule(15, 0, 99)", square.rule(15, 0, 99), 1);
        due("6: rule(0, 0, 0)", square.rule(0, 0, 0), 4);
        square.give(0, 1);
        square.reason(1);
        for (int no : new int[] {-1, 16, 99, EXTREMES[0], EXTREMES[1]}) {
            dueThrow("6: rule(" + no + ", 0, 0)", INDEX, () -> square.rule(no, 0, 0));
            dueThrow("6: rule(" + no + ", 3, 100)", INDEX, () -> square.rule(no, 3, 100));
        }
        for (int no : new int[] {-1, 3, EXTREMES[0], EXTREMES[1]}) {
            dueThrow("6: rule(0, " + no + ", 0)", ARGUMENT, () -> square.rule(0, no, 0));
        }
        for (int no : new int[] {-1, 100, EXTREMES[0], EXTREMES[1]}) {
            dueThrow("6: rule(0, 0, " + no + ")", ARGUMENT, () -> square.rule(0, 0, no));
            dueThrow("6: rule(0, 1, " + no + ")", ARGUMENT, () -> square.rule(0, 1, no));
        }
        for (int kind = 0; kind <= 2; kind += 2) {
            PuzzlePress other = opened(kind);
            other.reason(1);
            dueThrow("6: rule(0, 0, 0) in kind " + kind, STATE, () -> other.rule(0, 0, 0));
            dueThrow("6: rule(16, 3, 100) in kind " + kind, STATE, () -> other.rule(16, 3, 100));
        }
    }

    private static void ruleConditions() {
        PuzzlePress square = grouped(1, 0, 0);
        square.rule(0, 1, 7);
        square.reason(1);
        due("6: two cells are 7 together", square.candidates(0), 0b11000);
        square.rule(0, 2, 8);
        square.reason(1);
        due("6: two cells are 8 multiplied", square.candidates(1), 0b10100);
        square.rule(0, 0, 8);
        due("6: a group that is what it will", square.reason(1), 64);
        square.rule(0, 1, 8);
        due("6: 4 and 4 are alike", square.fillings(), 0);
        due("6: 4 and 4 are alike, reason(1)", square.reason(1), 0);
        square.rule(0, 0, 0);
        square.rule(15, 1, 3);
        due("6: a cell alone, the sum", square.value(15), 3);
        square.rule(15, 2, 4);
        due("6: a cell alone, the product", square.value(15), 4);
        square.rule(15, 2, 0);
        due("6: a cell alone, no product", square.fillings(), 0);
        square.rule(15, 0, 0);
        int[][] ofNone = {{0, 0, 2}, {0, 5, 2}, {1, 0, 2}, {1, 1, 0}, {2, 1, 2}, {2, 0, 0}, {2, 99, 0}};
        for (int[] row : ofNone) {
            due("6: rule of a group of none", square.rule(1, row[0], row[1]), 0);
            String what = " with rule " + row[0] + ", number " + row[1] + " and no cells";
            due("6: fillings()" + what, square.fillings(), row[2]);
            due("6: grade()" + what, square.grade(), row[2] == 0 ? 0 : 4);
            // It has no cells, so that it takes no candidates.
            due("12: reason(1)" + what, square.reason(1), 64);
            due("12: reason(2)" + what, square.reason(2), 64);
            due("14: step()" + what, square.step(), 0);
        }
    }

    /** Groups of three and one of one cell: the units can be met in no more ways than here. */
    private static void widestSquare() {
        PuzzlePress square = grouped(1, 1, 0, 0, 0, 4, 4, 4, 3, 8, 8, 2, 3, 8, 2, 2, 3);
        due("5: a square of threes", square.fillings(), 2);
        due("5: reason(2) of a square of threes", square.reason(2), 64);
        due("5: value(0) of a square of threes", square.value(0), 1);
        due("5: cells of group 1 of a square of threes", square.rule(1, 0, 0), 1);
        for (int value = 1; value <= 4; value++) {
            square.give(15, value);
            due("5: candidates of a square of threes", square.reason(1) > 16 ? 1 : 0, 1);
            due("5: fillings() of a square of threes", square.fillings(), 2);
        }
    }

    private static void give() {
        PuzzlePress press = twoWays();
        due("7: give(0, 1)", press.give(0, 1), NONE);
        due("7: give(0, 0)", press.give(0, 0), 1);
        due("9: fillings() with cell 0 given", press.fillings(), 1);
        due("7: give(0, NONE)", press.give(0, NONE), 0);
        due("7: give(0, NONE) again", press.give(0, NONE), NONE);
        due("9: fillings() without a given", press.fillings(), 2);
        due("7: give(24, 1) against the clues", press.give(24, 1), NONE);
        due("9: fillings() with a wrong given", press.fillings(), 0);
        due("7: give(24, 0)", press.give(24, 0), 1);
        for (int kind = 0; kind <= 2; kind++) {
            PuzzlePress other = opened(kind);
            int cells = cellsOf(other);
            other.give(1, 1);
            other.reason(1);
            for (int no : new int[] {-1, cells, EXTREMES[0], EXTREMES[1]}) {
                dueThrow("7: give(" + no + ", 1) in kind " + kind, INDEX, () -> other.give(no, 1));
                dueThrow("7: give(" + no + ", 9) in kind " + kind, INDEX, () -> other.give(no, 9));
                dueThrow("8: given(" + no + ") in kind " + kind, INDEX, () -> other.given(no));
            }
            for (int no : new int[] {-2, kind == 1 ? 0 : 2, 5, EXTREMES[0], EXTREMES[1]}) {
                dueThrow("7: give(1, " + no + ") in kind " + kind, ARGUMENT, () -> other.give(1, no));
            }
            due("7: the last cell in kind " + kind, other.give(cells - 1, kind == 1 ? 4 : 1), NONE);
            due("7: the last cell's given in kind " + kind, other.give(cells - 1, 1), kind == 1 ? 4 : 1);
        }
    }

    private static void given() {
        PuzzlePress square = opened(1);
        for (int cell = 0; cell < 16; cell++) {
            due("8: given(" + cell + ") without", square.given(cell), NONE);
            square.give(cell, 1 + cell % 4);
        }
        for (int cell = 0; cell < 16; cell++) {
            due("8: given(" + cell + ")", square.given(cell), 1 + cell % 4);
        }
        square.reason(2);
        due("8: given(3) behind reason", square.given(3), 4);
        square.give(3, NONE);
        due("8: given(3) taken back", square.given(3), NONE);
    }

    private static void fillings() {
        due("9: fillings() of two", twoWays().fillings(), 2);
        due("9: fillings() of a square, many", opened(1).fillings(), 2);
        due("9: fillings() of stars, many", opened(2).fillings(), 2);
        due("9: fillings() of a full picture", picture(5, 5, 5, 5, 5, 5, 5, 5, 5, 5).fillings(), 1);
        due("9: fillings() of rows without columns", picture(5).fillings(), 0);
        due("9: fillings() of 25 cells, many", picture(1, 1, 1, 1, 1, 1, 1, 1, 1, 1).fillings(), 2);
        PuzzlePress square = opened(1);
        for (int cell = 0; cell < 12; cell++) {
            square.give(cell, 1 + (cell % 4 ^ cell / 4));
        }
        due("9: fillings() of a square, three rows given", square.fillings(), 1);
        square.give(12, 1);
        due("9: fillings() of a square with a wrong given", square.fillings(), 0);
        PuzzlePress stars = opened(2);
        stars.give(2, 1);
        stars.give(9, 1);
        due("9: fillings() with two stars given", stars.fillings(), 2);
        stars.give(10, 1);
        due("9: fillings() with three stars given", stars.fillings(), 1);
        stars.open(2);
        stars.give(0, 1);
        stars.give(6, 1);
        due("9: fillings() with stars that touch at a corner", stars.fillings(), 0);
        stars.give(6, NONE);
        stars.give(20, 1);
        due("9: fillings() with two stars in a column", stars.fillings(), 0);
        stars.give(20, NONE);
        stars.give(4, 1);
        due("9: fillings() with two stars in a row", stars.fillings(), 0);
        // Candidates do not count, givens do.
        PuzzlePress press = picture(HARD_CLUES);
        press.reason(2);
        due("9: fillings() behind reason(2)", press.fillings(), 1);
        due("9: fillings() leaves the candidates", totalOf(press), 25);
        PuzzlePress bare = picture(5);
        due("12: reason(1) without a filling", bare.reason(1), 0);
        due("9: fillings() behind reason(1)", bare.fillings(), 0);
        bare.clue(0, 0);
        due("9: fillings() when the clue is right again", bare.fillings(), 1);
    }

    private static void value() {
        PuzzlePress press = twoWays();
        int[] first = {0, 1, 0, 0, 0, 1, 0, 0, 0, 0};
        for (int cell = 0; cell < 25; cell++) {
            due("10: value(" + cell + ") of two ways", press.value(cell), cell < 10 ? first[cell] : 0);
        }
        int[] latin = {1, 2, 3, 4, 2, 1, 4, 3, 3, 4, 1, 2, 4, 3, 2, 1};
        PuzzlePress square = opened(1);
        for (int cell = 0; cell < 16; cell++) {
            due("10: value(" + cell + ") of a square", square.value(cell), latin[cell]);
        }
        square.give(0, 4);
        int[] withFour = {4, 1, 2, 3, 1, 2, 3, 4, 2, 3, 4, 1, 3, 4, 1, 2};
        for (int cell = 0; cell < 16; cell++) {
            due("10: value(" + cell + ") of a square with a given", square.value(cell), withFour[cell]);
        }
        // Of all stars the first has its star in row 0 as far right as can be.
        int[] places = {4, 2, 0, 3, 1};
        PuzzlePress stars = opened(2);
        for (int cell = 0; cell < 25; cell++) {
            due("10: value(" + cell + ") of stars", stars.value(cell), places[cell / 5] == cell % 5 ? 1 : 0);
        }
        stars.reason(2);
        stars.value(3);
        due("10: value() leaves the candidates", totalOf(stars), 50);
        PuzzlePress none = picture(5);
        none.reason(1);
        dueThrow("10: value(0) without a filling", NO_ELEMENT, () -> none.value(0));
        for (int no : new int[] {-1, 25, EXTREMES[0], EXTREMES[1]}) {
            dueThrow("10: value(" + no + ") without a filling", INDEX, () -> none.value(no));
            dueThrow("10: value(" + no + ")", INDEX, () -> stars.value(no));
        }
        dueThrow("10: value(16) of a square", INDEX, () -> square.value(16));
    }

    private static void fresh() {
        PuzzlePress press = twoWays();
        due("11: fresh()", press.fresh(), 50);
        due("12: reason(1) of two ways", press.reason(1), 29);
        due("11: fresh() behind reason", press.fresh(), 50);
        due("11: the candidates behind fresh()", totalOf(press), 50);
        press.give(0, 1);
        press.give(3, 0);
        due("11: fresh() with two givens", press.fresh(), 48);
        due("11: fresh() of a square", opened(1).fresh(), 64);
        PuzzlePress square = opened(1);
        square.give(5, 2);
        square.reason(1);
        due("11: fresh() of a square with a given", square.fresh(), 61);
        due("11: fresh() of stars", opened(2).fresh(), 50);
    }

    /** A call that does not throw brings the candidates back, even if it sets what was there before. */
    private static void whatMakesFresh() {
        PuzzlePress press = twoWays();
        press.reason(1);
        press.clue(0, 1);
        due("candidates behind clue", totalOf(press), 50);
        press.reason(1);
        press.give(7, NONE);
        due("candidates behind give", totalOf(press), 50);
        press.reason(1);
        press.open(0);
        due("candidates behind open", totalOf(press), 50);
        press.full();
        due("candidates behind full", totalOf(press), 25);
        press.clue(0, 5);
        press.reason(1);
        press.clue(0, 0);
        press.give(0, NONE);
        press.reason(1);
        press.full();
        press.thin(1);
        due("candidates behind thin", totalOf(press), 50);
        press.reason(1);
        due("17: thin() with no givens", press.thin(3), 0);
        due("candidates behind a thin that takes nothing", totalOf(press), 50);
        PuzzlePress square = opened(1);
        square.give(0, 1);
        due("12: reason(1) with 1 in cell 0", square.reason(1), 61 - 6);
        square.group(3, 3);
        due("candidates behind group", totalOf(square), 61);
        square.reason(1);
        square.rule(3, 0, 0);
        due("candidates behind rule", totalOf(square), 61);
        square.reason(1);
        square.grade();
        square.fillings();
        square.value(1);
        square.given(1);
        square.kind();
        due("candidates behind calls that only tell", totalOf(square), 55);
    }

    private static void reason() {
        PuzzlePress press = picture(HARD_CLUES);
        due("12: reason(1) of a hard picture", press.reason(1), 43);
        due("12: reason(1) again", press.reason(1), 43);
        due("12: reason(2) behind reason(1)", press.reason(2), 25);
        due("12: reason(1) behind reason(2)", press.reason(1), 25);
        press.fresh();
        due("12: reason(2) of a hard picture", press.reason(2), 25);
        for (int cell = 0; cell < 25; cell++) {
            due("12: candidates(" + cell + ") behind reason(2)", press.candidates(cell), 1 << press.value(cell));
        }
        PuzzlePress square = hardSquare();
        due("12: reason(1) of a hard square", square.reason(1), 42);
        due("12: reason(2) of a hard square", square.reason(2), 16);
        PuzzlePress stars = grouped(2, HARD_STARS_GROUPS);
        due("12: reason(1) of hard stars", stars.reason(1), 50);
        due("12: reason(2) of hard stars", stars.reason(2), 25);
        // It goes on from the candidates that there are.
        stars.fresh();
        due("14: step() of hard stars", stars.step(), 2021);
        due("12: reason(1) behind a step", stars.reason(1), 49);
        due("12: reason(2) without a filling", picture(1, 1).reason(2), 0);
        press.fresh();
        press.reason(1);
        for (int no : new int[] {0, 3, -1, EXTREMES[0], EXTREMES[1]}) {
            dueThrow("12: reason(" + no + ")", ARGUMENT, () -> press.reason(no));
        }
    }

    private static void candidates() {
        PuzzlePress picture = twoWays();
        due("13: candidates(0) at first", picture.candidates(0), 0b11);
        picture.give(0, 0);
        picture.give(1, 1);
        due("13: candidates(0) with a given 0", picture.candidates(0), 0b01);
        due("13: candidates(1) with a given 1", picture.candidates(1), 0b10);
        due("13: candidates(6) before reasoning", picture.candidates(6), 0b11);
        picture.reason(1);
        due("13: candidates(6) behind reasoning", picture.candidates(6), 0b01);
        PuzzlePress square = opened(1);
        due("13: candidates(0) of a square", square.candidates(0), 0b11110);
        due("13: candidates(15) of a square", square.candidates(15), 0b11110);
        square.give(15, 4);
        due("13: candidates(15) with a given", square.candidates(15), 0b10000);
        square.reason(1);
        due("13: candidates(3) beside a given", square.candidates(3), 0b01110);
        square.rule(7, 1, 99);
        square.reason(1);
        due("13: candidates(0) without a filling", square.candidates(0), 0);
        square.rule(7, 0, 99);
        square.reason(1);
        for (int kind = 0; kind <= 2; kind++) {
            PuzzlePress press = opened(kind);
            for (int no : new int[] {-1, cellsOf(press), 32, EXTREMES[0], EXTREMES[1]}) {
                dueThrow("13: candidates(" + no + ") in kind " + kind, INDEX, () -> press.candidates(no));
            }
        }
    }

    private static void dueSteps(String what, PuzzlePress press, int[] steps) {
        int total = press.fresh();
        for (int i = 0; i < steps.length; i++) {
            due("14: step " + i + " of " + what, press.step(), steps[i]);
            total -= steps[i] == 0 ? 0 : 1;
            int cell = steps[i] % 1000 / 10;
            due("14: what step " + i + " of " + what + " took",
                    steps[i] == 0 ? 0 : press.candidates(cell) >> steps[i] % 10 & 1, 0);
        }
        due("14: candidates behind all steps of " + what, totalOf(press), total);
    }

    private static void step() {
        dueSteps("a hard picture", picture(HARD_CLUES), HARD_PICTURE_STEPS);
        dueSteps("a hard square", hardSquare(), HARD_SQUARE_STEPS);
        dueSteps("hard stars", grouped(2, HARD_STARS_GROUPS), HARD_STARS_STEPS);
        PuzzlePress two = twoWays();
        two.reason(2);
        due("14: step() of two ways", two.step(), 0);
        due("14: candidates behind a step() without one", totalOf(two), 29);
        due("14: step() again", two.step(), 0);
    }

    /** Without a filling that rule 1 can save, every candidate goes, one by one. */
    private static void stepToNothing() {
        PuzzlePress press = picture(5);
        int[] first = {1000, 1001, 1010, 1011, 1020, 1021};
        for (int i = 0; i < 50; i++) {
            int step = press.step();
            due("14: step " + i + " to nothing", step / 1000, 1);
            due("14: step " + i + " to nothing", i < first.length ? step : 0, i < first.length ? first[i] : 0);
            if (i % 10 == 9) {
                due("14: candidates behind step " + i + " to nothing", totalOf(press), 49 - i);
            }
        }
        due("14: step() behind the last", press.step(), 0);
        due("14: fresh() behind the last", press.fresh(), 50);
    }

    private static void grade() {
        due("15: grade() of a new object", new PuzzlePress().grade(), 1);
        due("15: grade() without a filling", picture(5).grade(), 0);
        due("15: grade() of two ways", twoWays().grade(), 4);
        due("15: grade() of a hard picture", picture(HARD_CLUES).grade(), 2);
        due("15: grade() of a hard square", hardSquare().grade(), 2);
        due("15: grade() of hard stars", grouped(2, HARD_STARS_GROUPS).grade(), 2);
        due("15: grade() of a square", opened(1).grade(), 4);
        // It starts from the candidates at first and leaves those that there are.
        PuzzlePress press = picture(HARD_CLUES);
        press.reason(2);
        due("15: grade() behind reason(2)", press.grade(), 2);
        due("15: candidates behind grade()", totalOf(press), 25);
        press.give(0, 1);
        due("15: grade() with a given that helps", press.grade(), 1);
        press.give(0, 0);
        due("15: grade() with a wrong given", press.grade(), 0);
    }

    private static void full() {
        PuzzlePress press = twoWays();
        press.give(3, 0);
        due("16: full()", press.full(), 24);
        for (int cell = 0; cell < 25; cell++) {
            due("16: given(" + cell + ") behind full()", press.given(cell), cell == 1 || cell == 5 ? 1 : 0);
        }
        due("16: full() again", press.full(), 0);
        due("16: fillings() behind full()", press.fillings(), 1);
        PuzzlePress square = opened(1);
        square.give(0, 3);
        due("16: full() of a square", square.full(), 15);
        due("16: given(0) of a square", square.given(0), 3);
        due("16: given(1) of a square", square.given(1), 1);
        due("16: full() of stars", opened(2).full(), 25);
        PuzzlePress none = picture(5);
        none.give(3, 1);
        none.reason(1);
        dueThrow("16: full() without a filling", NO_ELEMENT, none::full);
        due("16: given(3) behind it", none.given(3), 1);
        square.rule(0, 1, 9);
        dueThrow("16: full() of a square without a filling", NO_ELEMENT, square::full);
    }

    private static void thin() {
        PuzzlePress stars = grouped(2, HARD_STARS_GROUPS);
        stars.full();
        due("17: thin(1) of hard stars", stars.thin(1), 24);
        due("17: the given that stays", stars.given(23), 1);
        due("15: grade() behind thin(1)", stars.grade(), 1);
        due("17: thin(1) again", stars.thin(1), 0);
        due("17: thin(2)", stars.thin(2), 1);
        due("15: grade() behind thin(2)", stars.grade(), 2);
        stars.reason(1);
        dueThrow("17: thin(1) of grade 2", STATE, () -> stars.thin(1));
        due("17: thin(3) of grade 2", stars.thin(3), 0);
        PuzzlePress two = twoWays();
        two.give(24, 0);
        two.reason(1);
        for (int most = 1; most <= 3; most++) {
            int tried = most;
            dueThrow("17: thin(" + most + ") of grade 4", STATE, () -> two.thin(tried));
        }
        PuzzlePress none = picture(5);
        none.give(24, 0);
        none.reason(1);
        dueThrow("17: thin(3) of grade 0", STATE, () -> none.thin(3));
        for (int no : new int[] {0, 4, -1, EXTREMES[0], EXTREMES[1]}) {
            dueThrow("17: thin(" + no + ")", ARGUMENT, () -> stars.thin(no));
            dueThrow("17: thin(" + no + ") of grade 0", ARGUMENT, () -> none.thin(no));
        }
    }

    /** Givens go by rising numbers, so that the later ones stay. */
    private static void thinOrder() {
        PuzzlePress two = twoWays();
        two.full();
        due("17: thin(1) of two ways", two.thin(1), 24);
        for (int cell = 0; cell < 25; cell++) {
            due("17: given(" + cell + ") of two ways", two.given(cell), cell == 6 ? 0 : NONE);
        }
        PuzzlePress square = opened(1);
        square.full();
        due("17: thin(1) of a square", square.thin(1), 9);
        int[] stay = {NONE, NONE, NONE, NONE, NONE, 1, NONE, 3, NONE, NONE, 1, 2, NONE, 3, 2, 1};
        for (int cell = 0; cell < 16; cell++) {
            due("17: given(" + cell + ") of a square", square.given(cell), stay[cell]);
        }
        PuzzlePress hard = hardSquare();
        hard.give(0, hard.value(0));
        hard.give(15, hard.value(15));
        due("17: thin(1) with two givens", hard.thin(1), 1);
        due("17: the first one goes", hard.given(0), NONE);
        due("17: the last one stays", hard.given(15), hard.value(15));
        due("17: thin(2) with one given", hard.thin(2), 1);
    }
}

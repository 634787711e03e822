import java.util.ArrayList;
import java.util.List;

/**
 * Each sentence of the document that names a boundary case, in the document's order; the sentence stands above its
 * test. Which calls are refused, and that they change nothing, is RefusalTest's.
 */
public final class BoundaryTest {
    private static final int NONE = PuzzlePress.NONE;
    private static final int[] CLUES = {0, 1, 2, 3, 4, 5, 11, 12, 13, 21, 22, 31, 111};
    /** Cells of a square of which no two share a line, so that a group of them is free of all other units. */
    private static final int[] APART = {0, 6, 11, 13};

    /** Stars of one filling which neither rule gets hold of: the groups of the cells. */
    private static final int[] HARDEST_STARS = {
        2, 0, 2, 0, 2, 4, 1, 3, 1, 4, 2, 3, 3, 3, 2, 4, 0, 3, 0, 4, 4, 1, 2, 1, 2};
    /** A picture in which cell 2 is 1 in no filling, but supposing it and rule 1, over and over, do not show that. */
    private static final int[] DEEP_PICTURE = {1, 1, 2, 2, 1, 0, 1, 11, 11, 11};
    /** A picture without a filling, of which both rules see nothing. */
    private static final int[] HOLLOW_PICTURE = {11, 1, 1, 11, 11, 1, 1, 1, 1, 11};
    /** A picture of grade 2. */
    private static final int[] HARD_PICTURE = {12, 11, 11, 3, 1, 11, 2, 11, 12, 11};

    private static final Tally TALLY = new Tally();

    private BoundaryTest() {
    }

    public static void main(String[] args) {
        atMost512Calls();
        rowByRow();
        whatIsAClue();
        stretches();
        groupsOfASquare();
        noTwoAlike();
        groupOfNoCells();
        rulesOfEachSize();
        whatTheyWill();
        fourInAGroup();
        starsOfTheGroups();
        starsThatTouch();
        starsRoundTheEdge();
        candidatesAtFirst();
        ruleOne();
        ruleOneStaysInAUnit();
        ruleTwo();
        ruleTwoIsNotDeeper();
        nothingIsLeft();
        partlyNothing();
        grades();
        gradeThree();
        asAtFirst();
        opens();
        clueAnswers();
        groupAnswers();
        ruleAnswers();
        gives();
        twoOrMore();
        firstFilling();
        freshCounts();
        steps();
        fulls();
        thins();
        TALLY.end();
    }

    private static void due(String what, int got, int want) {
        TALLY.due(what, got, want);
    }

    private static PuzzlePress opened(int kind) {
        PuzzlePress press = new PuzzlePress();
        press.open(kind);
        return press;
    }

    private static PuzzlePress picture(int... clues) {
        PuzzlePress press = new PuzzlePress();
        for (int line = 0; line < clues.length; line++) {
            press.clue(line, clues[line]);
        }
        return press;
    }

    private static PuzzlePress grouped(int kind, int... groups) {
        PuzzlePress press = opened(kind);
        for (int cell = 0; cell < groups.length; cell++) {
            press.group(cell, groups[cell]);
        }
        return press;
    }

    private static int totalOf(PuzzlePress press) {
        int total = 0;
        for (int cell = 0; cell < Readout.cellsOf(press); cell++) {
            total += Integer.bitCount(press.candidates(cell));
        }
        return total;
    }

    private static void dueCandidates(String what, PuzzlePress press, int... wanted) {
        for (int cell = 0; cell < wanted.length; cell++) {
            due(what + ", candidates(" + cell + ")", press.candidates(cell), wanted[cell]);
        }
    }

    private static void dueSteps(String what, PuzzlePress press, int... wanted) {
        for (int i = 0; i < wanted.length; i++) {
            due(what + ", step " + i, press.step(), wanted[i]);
        }
    }

    /** "An object is used for at most 512 calls after it has been made": the last of them is as good as the first. */
    private static void atMost512Calls() {
        PuzzlePress press = new PuzzlePress();
        int calls = 0;
        for (int turn = 0; turn < 63; turn++) {
            int kind = turn % 3;
            due("turn " + turn + ", open", press.open(kind), kind == 1 ? 16 : 25);
            press.give(0, 1);
            press.give(0, NONE);
            press.fillings();
            press.full();
            press.thin(3);
            press.reason(2);
            press.step();
            calls += 8;
        }
        due("open(2), call 505", press.open(2), 25);
        for (calls++; calls < 511; calls++) {
            due("fillings(), call " + (calls + 1), press.fillings(), 2);
        }
        due("value(24), call 512", press.value(24), 0);
        due("calls before the last", calls, 511);
    }

    /** "CELLS in rows and columns, numbered from 0, row by row"; "the rows 0 .. 4 .. and the columns 5 .. 9" */
    private static void rowByRow() {
        for (int cell = 0; cell < 25; cell++) {
            PuzzlePress press = new PuzzlePress();
            press.clue(cell / 5, 1);
            press.clue(5 + cell % 5, 1);
            for (int other = 0; other < 25; other++) {
                due("clues for cell " + cell + ", value(" + other + ")", press.value(other), other == cell ? 1 : 0);
            }
        }
        for (int cell = 0; cell < 16; cell++) {
            PuzzlePress press = opened(1);
            press.give(cell, 3);
            press.reason(1);
            for (int other = 0; other < 16; other++) {
                boolean inLine = other / 4 == cell / 4 || other % 4 == cell % 4;
                int want = other == cell ? 0b01000 : inLine ? 0b10110 : 0b11110;
                due("3 in cell " + cell + ", candidates(" + other + ")", press.candidates(other), want);
            }
        }
    }

    /** "no to three figures 1 .. 5, which together, and one more between each two, are not more than 5" */
    private static void whatIsAClue() {
        PuzzlePress press = new PuzzlePress();
        int calls = 0;
        int before = 0;
        for (int number = -2000; number <= 60000; number++) {
            if (calls == 500) {
                press = new PuzzlePress();
                calls = 0;
                before = 0;
            }
            calls++;
            boolean taken;
            try {
                due("clue(9, " + number + ")", press.clue(9, number), before);
                before = number;
                taken = true;
            } catch (IllegalArgumentException e) {
                taken = false;
            }
            due("clue(9, " + number + ") is taken", taken ? 1 : 0, isOneOf(CLUES, number) ? 1 : 0);
        }
    }

    private static boolean isOneOf(int[] numbers, int number) {
        for (int one : numbers) {
            if (one == number) {
                return true;
            }
        }
        return false;
    }

    /** "the stretches of 1, one behind the other from the left or from above, are as long as the figures say" */
    private static void stretches() {
        for (int line = 0; line < 10; line++) {
            for (int clue : CLUES) {
                for (int ones = 0; ones < 32; ones++) {
                    PuzzlePress press = new PuzzlePress();
                    press.clue(line, clue);
                    String figures = "";
                    for (int place = 0; place < 5; place++) {
                        press.clue((line < 5 ? 5 : 0) + place, ones >> place & 1);
                        figures += ones >> place & 1;
                    }
                    String what = "line " + line + " with clue " + clue + " as " + figures + ", fillings()";
                    due(what, press.fillings(), clueOf(figures) == clue ? 1 : 0);
                }
            }
        }
    }

    private static int clueOf(String line) {
        String figures = "0";
        for (String stretch : line.split("0+")) {
            figures += stretch.isEmpty() ? "" : stretch.length();
        }
        return Integer.parseInt(figures);
    }

    /** "Each cell is in a GROUP 0 .. 15": each cell comes into each group. */
    private static void groupsOfASquare() {
        for (int group = 0; group < 16; group++) {
            PuzzlePress press = opened(1);
            for (int cell = 0; cell < 16; cell++) {
                due("group(" + cell + ", " + group + ")", press.group(cell, group), cell);
                due("group(" + cell + ", " + cell + ") back", press.group(cell, cell), group);
            }
            due("cells of group " + group, press.rule(group, 0, 0), 1);
        }
    }

    /** "no two cells are alike", in a row, in a column, in a group, and where they share none of these. */
    private static void noTwoAlike() {
        for (int one = 0; one < 16; one++) {
            for (int other = one + 1; other < 16; other++) {
                boolean inLine = one / 4 == other / 4 || one % 4 == other % 4;
                PuzzlePress press = opened(1);
                press.give(one, 4);
                press.give(other, 4);
                String what = "4 in cells " + one + " and " + other + ", fillings()";
                due(what, press.fillings(), inLine ? 0 : 2);
                press.group(one, 7);
                press.group(other, 7);
                due(what + " in one group", press.fillings(), 0);
            }
        }
    }

    /** "each group is a unit (of no cells, too)"; "(without cells 0 and 1)" */
    private static void groupOfNoCells() {
        for (int group = 0; group < 16; group += 15) {
            for (int number = 0; number <= 99; number++) {
                PuzzlePress press = opened(1);
                press.group(group, 7);
                String what = "group " + group + " of no cells with ";
                due(what + "rule 0", press.rule(group, 0, number), 0);
                due(what + "rule 0, number " + number, press.fillings(), 2);
                press.rule(group, 1, number);
                due(what + "rule 1, number " + number, press.fillings(), number == 0 ? 2 : 0);
                due(what + "rule 1, number " + number + ", grade()", press.grade(), number == 0 ? 4 : 0);
                press.rule(group, 2, number);
                due(what + "rule 2, number " + number, press.fillings(), number == 1 ? 2 : 0);
                due(what + "rule 2, number " + number + ", grade()", press.grade(), number == 1 ? 4 : 0);
                due(what + "rule 2, number " + number + ", reason(2)", press.reason(2), 64);
                due(what + "rule 2, number " + number + ", step()", press.step(), 0);
            }
        }
        // A group keeps its rule when its last cell leaves it and when one comes again.
        PuzzlePress press = opened(1);
        press.rule(3, 1, 4);
        due("rule 1, number 4 of group 3, value(3)", press.value(3), 4);
        press.group(3, 2);
        due("its last cell has left, fillings()", press.fillings(), 0);
        press.group(8, 3);
        due("another cell has come, value(8)", press.value(8), 4);
        due("another cell has come, fillings()", press.fillings(), 2);
    }

    /** "the values together are (1) its NUMBER, or multiplied with each other (2) its NUMBER": none to four cells. */
    private static void rulesOfEachSize() {
        for (int size = 0; size <= 4; size++) {
            for (int number = 0; number <= 99; number++) {
                dueOfRule(size, 1, number);
                dueOfRule(size, 2, number);
            }
        }
    }

    private static void dueOfRule(int size, int rule, int number) {
        int fitting = 0;
        boolean fits = false;
        for (int values = 0; values <= 0b11110; values += 2) {
            if (Integer.bitCount(values) == size && togetherIs(values, rule, number)) {
                fitting |= values;
                fits = true;
            }
        }
        PuzzlePress press = opened(1);
        // Cell 8 leaves its group for one of its own row, which has no two alike anyway.
        press.group(8, 9);
        for (int i = 0; i < size; i++) {
            press.group(APART[i], 8);
        }
        String what = "rule " + rule + ", number " + number + ", " + size + " cells";
        due(what + ", rule()", press.rule(8, rule, number), size);
        due(what + ", fillings()", press.fillings(), fits ? 2 : 0);
        int left = press.reason(1);
        for (int i = 0; i < size; i++) {
            due(what + ", candidates(" + APART[i] + ")", press.candidates(APART[i]), fitting);
        }
        due(what + ", something is left", left > 0 ? 1 : 0, fits || size == 0 ? 1 : 0);
    }

    private static boolean togetherIs(int values, int rule, int number) {
        int sum = 0;
        int product = 1;
        for (int value = 1; value <= 4; value++) {
            if ((values >> value & 1) == 1) {
                sum += value;
                product *= value;
            }
        }
        return (rule == 1 ? sum : product) == number;
    }

    /** "or (0) what they will": then the number is nothing, but no two cells are alike. */
    private static void whatTheyWill() {
        for (int number = 0; number <= 99; number++) {
            PuzzlePress press = grouped(1, 0, 1, 2, 3, 4, 0);
            due("rule(0, 0, " + number + ")", press.rule(0, 0, number), 2);
            due("rule 0, number " + number + ", reason(2)", press.reason(2), 64);
            press.give(0, 1);
            press.reason(1);
            due("rule 0, number " + number + ", candidates(5)", press.candidates(5), 0b11100);
        }
    }

    /** "at most 4 in one"; "UnsupportedOperationException: in a square, when 4 others are in it" */
    private static void fourInAGroup() {
        for (int group = 0; group < 16; group += 5) {
            PuzzlePress press = opened(1);
            List<Integer> inside = new ArrayList<>();
            inside.add(group);
            for (int cell = 15; cell >= 0; cell--) {
                boolean taken;
                try {
                    press.group(cell, group);
                    taken = true;
                } catch (UnsupportedOperationException e) {
                    taken = false;
                }
                boolean due = inside.contains(cell) || inside.size() < 4;
                due("cell " + cell + " comes into group " + group, taken ? 1 : 0, due ? 1 : 0);
                if (due && !inside.contains(cell)) {
                    inside.add(cell);
                }
            }
            due("cells of group " + group, press.rule(group, 0, 0), 4);
            int leaving = inside.get(3);
            due("the last of four comes again", press.group(leaving, group), group);
            due("the last of four leaves", press.group(leaving, 1), group);
            due("cells of group " + group + " behind it", press.rule(group, 0, 0), 3);
            due("another comes", press.group(2, group), 2);
            due("cells of group " + group + " then", press.rule(group, 0, 0), 4);
        }
        // Among stars there is no such limit.
        PuzzlePress stars = opened(2);
        for (int cell = 0; cell < 25; cell++) {
            due("group(" + cell + ", 4) among stars", stars.group(cell, 4), cell / 5);
        }
    }

    /** Stars: "each group that has cells, is a unit: just one cell is 1" */
    private static void starsOfTheGroups() {
        // A group of one cell has its star there.
        for (int cell = 0; cell < 25; cell++) {
            PuzzlePress alone = opened(2);
            for (int other = 0; other < 25; other++) {
                alone.group(other, other == cell ? 4 : 0);
            }
            due("group 4 of cell " + cell + " alone, step()", alone.step(), 1000 + 10 * cell);
        }
        // Groups of none take nothing away.
        PuzzlePress one = opened(2);
        for (int cell = 0; cell < 4; cell++) {
            one.group(cell, 1);
        }
        one.reason(1);
        due("a group of one cell, candidates(4)", one.candidates(4), 0b10);
        due("a group of one cell, candidates(9)", one.candidates(9), 0b01);
        due("a group of one cell, fillings()", one.fillings(), 2);
        one.group(4, 1);
        due("a group that lost its last cell, reason(1)", one.reason(1), 50);
        due("a group that lost its last cell, fillings()", one.fillings(), 0);
        due("a group that lost its last cell, grade()", one.grade(), 0);
        PuzzlePress all = opened(2);
        for (int cell = 0; cell < 25; cell++) {
            all.group(cell, 4);
        }
        due("all in group 4, reason(1)", all.reason(1), 50);
        all.give(12, 1);
        due("all in group 4 and a star, reason(1)", all.reason(1), 0);
        // Groups that are rows or columns tell nothing new; two stars in one group can't be.
        PuzzlePress columns = opened(2);
        for (int cell = 0; cell < 25; cell++) {
            columns.group(cell, cell % 5);
        }
        due("groups that are columns, fillings()", columns.fillings(), 2);
        due("groups that are columns, reason(2)", columns.reason(2), 50);
        columns.group(24, 0);
        columns.give(0, 1);
        columns.give(24, 1);
        due("two stars in one group, fillings()", columns.fillings(), 0);
        columns.group(24, 4);
        due("two stars in two groups, fillings()", columns.fillings(), Math.min(2, placesWith(0, 24)));
    }

    /** "Each two cells that touch, also at a corner, are a unit: not both are 1": each two stars that are given. */
    private static void starsThatTouch() {
        for (int one = 0; one < 25; one++) {
            for (int other = one; other < 25; other++) {
                PuzzlePress press = opened(2);
                press.give(one, 1);
                press.give(other, 1);
                String what = "stars at " + one + " and " + other + ", fillings()";
                due(what, press.fillings(), Math.min(2, placesWith(one, other)));
            }
        }
    }

    /** In how many ways five stars stand in all rows and columns without touching, these two among them. */
    private static int placesWith(int one, int other) {
        int ways = 0;
        for (int code = 0; code < 3125; code++) {
            int columns = 0;
            boolean apart = true;
            boolean both = true;
            for (int row = 0, rest = code, before = -2; row < 5; row++, rest /= 5) {
                int column = rest % 5;
                columns |= 1 << column;
                apart &= row == 0 || Math.abs(column - before) > 1;
                both &= (one / 5 != row || one % 5 == column) && (other / 5 != row || other % 5 == column);
                before = column;
            }
            ways += columns == 31 && apart && both ? 1 : 0;
        }
        return ways;
    }

    /** The last cell of a row and the first of the next do not touch. */
    private static void starsRoundTheEdge() {
        PuzzlePress right = opened(2);
        right.give(4, 1);
        dueSteps("a star at 4", right, 1001, 1011, 1021, 1031, 1081, 1091);
        PuzzlePress left = opened(2);
        left.give(5, 1);
        dueSteps("a star at 5", left, 1001, 1011, 1061, 1071, 1081, 1091, 1101, 1111);
        due("a star at 5, candidates(4)", left.candidates(4), 0b11);
        PuzzlePress last = opened(2);
        last.give(24, 1);
        dueSteps("a star at 24", last, 1041, 1091, 1141, 1181, 1191, 1201, 1211, 1221, 1231);
    }

    /** "CANDIDATES of a cell are some of the values; AT FIRST its given alone, or all, when it has none." */
    private static void candidatesAtFirst() {
        for (int kind = 0; kind <= 2; kind++) {
            int least = kind == 1 ? 1 : 0;
            int greatest = kind == 1 ? 4 : 1;
            int all = kind == 1 ? 0b11110 : 0b11;
            PuzzlePress press = opened(kind);
            int cells = Readout.cellsOf(press);
            for (int cell = 0; cell < cells; cell += cells - 1) {
                String what = "kind " + kind + ", candidates(" + cell + ")";
                due(what + " without a given", press.candidates(cell), all);
                for (int value = least; value <= greatest; value++) {
                    press.give(cell, value);
                    due(what + " with " + value, press.candidates(cell), 1 << value);
                    due(what + " with " + value + ", fresh()", press.fresh(), (cells - 1) * Integer.bitCount(all) + 1);
                }
                press.give(cell, NONE);
                due(what + " with NONE", press.candidates(cell), all);
            }
        }
    }

    /** "a unit with c, in which, with v in c, the other cells can't be filled by candidates of theirs" */
    private static void ruleOne() {
        // All cells of the unit together: two cells that have 1 and 2 between them leave 3 and 4 to the rest.
        PuzzlePress pair = grouped(1, 0, 0);
        pair.rule(0, 1, 3);
        dueSteps("1 and 2 in a group", pair, 1003, 1004, 1013, 1014, 1021, 1022, 1031, 1032);
        due("1 and 2 in a group, reason(1)", pair.reason(1), 56);
        dueCandidates("1 and 2 in a group", pair, 0b00110, 0b00110, 0b11000, 0b11000, 0b11110);
        // A unit of one cell.
        PuzzlePress alone = opened(1);
        alone.rule(15, 2, 4);
        dueSteps("a cell alone", alone, 1151, 1152, 1153, 1034, 1074, 1114, 1124, 1134, 1144, 0);
        due("a cell alone, reason(1)", alone.reason(1), 64 - 3 - 6);
        due("a cell alone, candidates(15)", alone.candidates(15), 0b10000);
        // The last candidate of a cell goes as the others do.
        PuzzlePress last = opened(1);
        last.give(0, 1);
        last.rule(0, 1, 2);
        due("a given against its group, step()", last.step(), 1001);
        due("a given against its group, candidates(0)", last.candidates(0), 0);
        // Of a line without clue all 1 go, of one with clue 5 all 0, of one with clue 3 the 0 in the middle.
        dueSteps("a new object", new PuzzlePress(), 1001, 1011, 1021);
        PuzzlePress three = picture(3, 1, 1, 1, 1, 11, 11, 11, 11, 11);
        due("clue 3, step()", three.step(), 1020);
        PuzzlePress four = picture(0, 0, 0, 0, 0, 4);
        dueSteps("column 5 with clue 4, rows without", four, 1001, 1011, 1021, 1031, 1041, 1050, 1051, 1000, 1010);
    }

    /** Rule 1 looks at one unit at a time: what two of them forbid together stays. */
    private static void ruleOneStaysInAUnit() {
        PuzzlePress two = picture(1, 1, 0, 0, 0, 1, 1);
        due("two fillings, reason(1)", two.reason(1), 29);
        PuzzlePress hollow = picture(HOLLOW_PICTURE);
        due("8 ones in rows, 6 in columns, reason(1)", hollow.reason(1), 50);
        due("8 ones in rows, 6 in columns, fillings()", hollow.fillings(), 0);
    }

    /** "were v the only one of c, rule 1, over and over, would leave some cell without candidates" */
    private static void ruleTwo() {
        PuzzlePress press = picture(HARD_PICTURE);
        due("a hard picture, reason(1)", press.reason(1), 43);
        due("a hard picture, step()", press.step(), 2000);
        PuzzlePress supposed = picture(HARD_PICTURE);
        supposed.give(0, 0);
        due("what is taken supposed, reason(1)", supposed.reason(1), 0);
        supposed.give(0, 1);
        due("the other supposed, reason(1)", supposed.reason(1), 25);
        // What stands in a filling is never taken, so that two fillings which share nothing keep all.
        PuzzlePress square = opened(1);
        due("a new square, reason(2)", square.reason(2), 64);
        due("a new square, step()", square.step(), 0);
    }

    /** Within what is supposed there is no supposing. */
    private static void ruleTwoIsNotDeeper() {
        PuzzlePress deep = picture(DEEP_PICTURE);
        due("a deep picture, reason(1)", deep.reason(1), 45);
        due("a deep picture, reason(2)", deep.reason(2), 42);
        due("a deep picture, step()", deep.step(), 0);
        due("a deep picture, candidates(2)", deep.candidates(2), 0b11);
        deep.give(2, 1);
        due("a deep picture with 1 in cell 2, fillings()", deep.fillings(), 0);
        due("a deep picture with 1 in cell 2, reason(1)", deep.reason(1), 40);
        due("a deep picture with 1 in cell 2, reason(2)", deep.reason(2), 0);
        PuzzlePress hollow = picture(HOLLOW_PICTURE);
        due("a hollow picture, reason(2)", hollow.reason(2), 50);
        due("a hollow picture, step()", hollow.step(), 0);
        due("a hollow picture, grade()", hollow.grade(), 0);
    }

    /** A cell without candidates can't be filled, so that rule 1 takes all from the cells that share a unit with it. */
    private static void nothingIsLeft() {
        PuzzlePress square = opened(1);
        square.rule(10, 1, 5);
        for (int kind = 0; kind <= 2; kind++) {
            PuzzlePress press = kind == 0 ? picture(0, 0, 0, 0, 0, 0, 0, 0, 0, 1) : kind == 1 ? square : opened(2);
            if (kind == 2) {
                press.give(12, 1);
                press.give(18, 1);
            }
            String what = "no filling, kind " + kind;
            due(what + ", reason(1)", press.reason(1), 0);
            for (int cell = 0; cell < Readout.cellsOf(press); cell++) {
                due(what + ", candidates(" + cell + ")", press.candidates(cell), 0);
            }
            due(what + ", reason(1) of nothing", press.reason(1), 0);
            due(what + ", reason(2) of nothing", press.reason(2), 0);
            due(what + ", step() of nothing", press.step(), 0);
            due(what + ", grade()", press.grade(), 0);
            due(what + ", fresh()", press.fresh(), kind == 0 ? 50 : kind == 1 ? 64 : 48);
            due(what + ", reason(2)", press.reason(2), 0);
        }
    }

    /** From where one cell has lost all, each step takes the first candidate that shares a unit with an empty cell. */
    private static void partlyNothing() {
        PuzzlePress press = opened(1);
        press.give(5, 3);
        press.rule(5, 1, 4);
        // Only what rule 1 takes at once: 3 in row 1 and column 1, then 3 in cell 5 itself.
        dueSteps("cell 5 loses its last", press, 1013, 1043, 1053);
        due("cell 5 is empty, candidates(5)", press.candidates(5), 0);
        dueCandidates("cell 5 is empty", press, 0b11110, 0b10110, 0b11110, 0b11110, 0b10110);
        // Cell 1 shares column 1 with it; when only 4 is left there, 4 goes from cell 0, in the same row.
        dueSteps("cell 5 is empty", press, 1011, 1012, 1004, 1014, 1001, 1002, 1003, 1021);
        due("cell 5 is empty, candidates in all", totalOf(press), 61 - 3 - 7 - 1);
        due("cell 5 is empty, reason(2)", press.reason(2), 0);
        press.rule(5, 1, 3);
        due("cell 5 fits again, reason(1)", press.reason(1), 64 - 3 - 6);
    }

    /** "0: it has no filling; 4: it has more than one; otherwise, from the candidates at first, 1: .. 2: .." */
    private static void grades() {
        due("one filling, rule 1", new PuzzlePress().grade(), 1);
        due("one filling, both", picture(HARD_PICTURE).grade(), 2);
        due("two fillings", picture(1, 1, 0, 0, 0, 1, 1).grade(), 4);
        due("more than two", opened(1).grade(), 4);
        due("no filling, which rule 1 sees", picture(5).grade(), 0);
        due("no filling, which nobody sees", picture(HOLLOW_PICTURE).grade(), 0);
        PuzzlePress gone = picture(5);
        gone.reason(1);
        gone.clue(0, 0);
        due("a filling again", gone.grade(), 1);
        // Candidates that are gone or found do not count.
        PuzzlePress hard = picture(HARD_PICTURE);
        hard.reason(2);
        due("behind reason(2)", hard.grade(), 2);
        due("candidates behind grade()", totalOf(hard), 25);
    }

    /** "3: neither" */
    private static void gradeThree() {
        PuzzlePress press = grouped(2, HARDEST_STARS);
        due("the hardest stars, fillings()", press.fillings(), 1);
        due("the hardest stars, grade()", press.grade(), 3);
        due("the hardest stars, step()", press.step(), 0);
        due("the hardest stars, reason(1)", press.reason(1), 50);
        due("the hardest stars, reason(2)", press.reason(2), 50);
        due("the hardest stars, thin(3)", press.thin(3), 0);
        int[] stars = {3, 6, 14, 17, 20};
        for (int cell = 0; cell < 25; cell++) {
            due("the hardest stars, value(" + cell + ")", press.value(cell), isOneOf(stars, cell) ? 1 : 0);
        }
        due("the hardest stars, full()", press.full(), 25);
        due("full, grade()", press.grade(), 1);
        due("full, thin(1)", press.thin(1), 20);
        due("thin(1), grade()", press.grade(), 1);
        dueGivens("thin(1)", press, 18, 21, 22, 23, 24);
        due("then thin(2)", press.thin(2), 4);
        due("thin(2), grade()", press.grade(), 2);
        dueGivens("thin(2)", press, 24);
        due("then thin(3)", press.thin(3), 1);
        due("thin(3), grade()", press.grade(), 3);
        dueGivens("thin(3)", press);
    }

    /** The cells that have a given, each of them 0. */
    private static void dueGivens(String what, PuzzlePress press, int... cells) {
        for (int cell = 0; cell < 25; cell++) {
            due(what + ", given(" + cell + ")", press.given(cell), isOneOf(cells, cell) ? 0 : NONE);
        }
    }

    /** "When open(), clue(), .. does not throw, all candidates are as at first behind it": also if nothing is new. */
    private static void asAtFirst() {
        PuzzlePress press = picture(0, 1, 0, 0, 0, 1);
        due("reason(1)", press.reason(1), 25);
        due("the clue that it had", press.clue(1, 1), 1);
        due("candidates behind clue()", totalOf(press), 50);
        press.reason(1);
        due("no given as before", press.give(24, NONE), NONE);
        due("candidates behind give()", totalOf(press), 50);
        press.reason(1);
        due("nothing to take", press.thin(1), 0);
        due("candidates behind thin()", totalOf(press), 50);
        press.reason(1);
        due("the same kind", press.open(0), 25);
        due("candidates behind open()", totalOf(press), 50);
        press.full();
        press.give(0, NONE);
        press.step();
        due("candidates behind step()", totalOf(press), 25);
        due("one without a given", press.full(), 1);
        due("all have givens", press.full(), 0);
        due("candidates behind full()", totalOf(press), 25);
        PuzzlePress square = opened(1);
        square.give(0, 1);
        square.reason(1);
        due("the group in which it was", square.group(15, 15), 15);
        due("candidates behind group()", totalOf(square), 61);
        square.reason(1);
        due("the rule that it had", square.rule(15, 0, 0), 1);
        due("candidates behind rule()", totalOf(square), 61);
        square.reason(1);
        due("the given that it had", square.give(0, 1), 1);
        due("candidates behind give() of the same", totalOf(square), 61);
        square.reason(1);
        due("fresh()", square.fresh(), 61);
        due("candidates behind fresh()", totalOf(square), 61);
        fullWhereAllWereGone();
    }

    private static void fullWhereAllWereGone() {
        PuzzlePress press = picture(HARD_PICTURE);
        press.full();
        press.clue(0, 5);
        due("a clue against the givens, reason(1)", press.reason(1), 0);
        press.clue(0, 12);
        due("the right clue, candidates", totalOf(press), 25);
        due("the right clue, full()", press.full(), 0);
        due("the right clue, candidates behind full()", totalOf(press), 25);
    }

    /** "A new puzzle without givens: clues 0; in a square cell k in group k, rules 0, numbers 0" */
    private static void opens() {
        String[] untouched = {Readout.of(new PuzzlePress()), Readout.of(opened(1)), Readout.of(opened(2))};
        for (int before = 0; before <= 2; before++) {
            for (int kind = 0; kind <= 2; kind++) {
                PuzzlePress press = opened(before);
                disturb(press);
                due("open(" + kind + ") after kind " + before, press.open(kind), kind == 1 ? 16 : 25);
                due("kind()", press.kind(), kind);
                String what = "all behind open(" + kind + ") after kind " + before;
                TALLY.dueText(what, Readout.of(press), untouched[kind]);
                PuzzlePress twice = opened(before);
                disturb(twice);
                twice.open(kind);
                twice.open(kind);
                TALLY.dueText(what + " twice", Readout.of(twice), untouched[kind]);
            }
        }
    }

    private static void disturb(PuzzlePress press) {
        int kind = press.kind();
        for (int i = 0; i < 5; i++) {
            if (kind == 0) {
                press.clue(i, 111);
                press.clue(5 + i, 11);
            } else {
                press.group(15 - i, 4 - i);
            }
            press.give(3 * i, 1);
        }
        for (int group = 0; group < 16 && kind == 1; group++) {
            press.rule(group, 1 + group % 2, group);
        }
        press.step();
        press.reason(2);
    }

    /** "A line gets a clue: the one that it had." */
    private static void clueAnswers() {
        PuzzlePress press = new PuzzlePress();
        for (int clue : CLUES) {
            for (int line = 0; line < 10; line++) {
                int before = clue == 0 ? 0 : CLUES[java.util.Arrays.binarySearch(CLUES, clue) - 1];
                due("clue(" + line + ", " + clue + ")", press.clue(line, clue), before);
            }
        }
        for (int line = 0; line < 10; line++) {
            due("clue(" + line + ", 0)", press.clue(line, 0), 111);
        }
        due("all clues 0 again, grade()", press.grade(), 1);
    }

    /** "A cell comes into a group: the one in which it was." */
    private static void groupAnswers() {
        PuzzlePress stars = opened(2);
        for (int turn = 0; turn < 6; turn++) {
            for (int cell = 0; cell < 25; cell++) {
                int before = turn == 0 ? cell / 5 : (cell + turn - 1) % 5;
                due("group(" + cell + ", ..), turn " + turn, stars.group(cell, (cell + turn) % 5), before);
            }
        }
        PuzzlePress square = opened(1);
        due("group(0, 15)", square.group(0, 15), 0);
        due("group(15, 0)", square.group(15, 0), 15);
        due("group(0, 0)", square.group(0, 0), 15);
        due("group(15, 15)", square.group(15, 15), 0);
    }

    /** "A group gets a rule and a number: how many cells it has." */
    private static void ruleAnswers() {
        int[] groups = {15, 15, 15, 15, 0, 0, 0, 7, 7, 8, 8, 8, 8, 0, 5, 4};
        int[] sizes = {4, 0, 0, 0, 1, 1, 0, 2, 4, 0, 0, 0, 0, 0, 0, 4};
        PuzzlePress press = opened(1);
        press.group(15, 4);
        for (int cell = 0; cell < 15; cell++) {
            // Group 15 and group 8 have room by then: their own cells leave before the fifth comes.
            if (groups[cell] != cell) {
                press.group(cell, groups[cell]);
            }
        }
        for (int group = 0; group < 16; group++) {
            due("rule(" + group + ", 2, 99)", press.rule(group, 2, 99), sizes[group]);
            due("rule(" + group + ", 1, 0)", press.rule(group, 1, 0), sizes[group]);
            due("rule(" + group + ", 0, 0)", press.rule(group, 0, 0), sizes[group]);
        }
        due("what they will, all of them, reason(1)", press.reason(1) > 0 ? 1 : 0, 1);
    }

    /** "A cell gets a given, or, with NONE, has none: what it had, NONE for none." */
    private static void gives() {
        for (int kind = 0; kind <= 2; kind++) {
            int least = kind == 1 ? 1 : 0;
            int greatest = kind == 1 ? 4 : 1;
            PuzzlePress press = opened(kind);
            for (int cell = 0; cell < Readout.cellsOf(press); cell++) {
                String what = "kind " + kind + ", give(" + cell;
                due(what + ", NONE)", press.give(cell, NONE), NONE);
                due(what + ", the least)", press.give(cell, least), NONE);
                due(what + ", the greatest)", press.give(cell, greatest), least);
                due(what + ", ..), then given()", press.given(cell), greatest);
                due(what + ", NONE) again", press.give(cell, NONE), greatest);
                due(what + ", NONE), then given()", press.given(cell), NONE);
            }
        }
    }

    /** "How many fillings there are: 0, 1, or 2 for two or more." */
    private static void twoOrMore() {
        due("no filling", picture(1).fillings(), 0);
        due("one filling", picture(1, 0, 0, 0, 0, 1).fillings(), 1);
        due("two fillings", picture(1, 1, 0, 0, 0, 1, 1).fillings(), 2);
        due("six fillings", picture(1, 1, 1, 0, 0, 1, 1, 1).fillings(), 2);
        due("120 fillings", picture(1, 1, 1, 1, 1, 1, 1, 1, 1, 1).fillings(), 2);
        due("576 fillings", opened(1).fillings(), 2);
        due("14 fillings", opened(2).fillings(), 2);
        PuzzlePress wrong = opened(0);
        wrong.give(24, 1);
        due("a given against the clues", wrong.fillings(), 0);
    }

    /** "before the other which has the lesser value in the first cell in which they are not alike" */
    private static void firstFilling() {
        // Ones on the other diagonal: the first row's stands as far right as it can.
        PuzzlePress picture = picture(1, 1, 1, 1, 1, 1, 1, 1, 1, 1);
        for (int cell = 0; cell < 25; cell++) {
            due("120 fillings, value(" + cell + ")", picture.value(cell), cell / 5 + cell % 5 == 4 ? 1 : 0);
        }
        // The last cell alone can make the difference.
        PuzzlePress square = opened(1);
        int[] rows = {1, 2, 3, 4, 2, 1, 4, 3};
        for (int cell = 0; cell < 8; cell++) {
            square.give(cell, rows[cell]);
        }
        int[] rest = {3, 4, 1, 2, 4, 3, 2, 1};
        for (int cell = 8; cell < 16; cell++) {
            due("two rows given, value(" + cell + ")", square.value(cell), rest[cell - 8]);
        }
        square.give(8, 4);
        int[] other = {4, 3, 1, 2, 3, 4, 2, 1};
        for (int cell = 8; cell < 16; cell++) {
            due("two rows and a cell given, value(" + cell + ")", square.value(cell), other[cell - 8]);
        }
    }

    /** "All candidates are as at first: how many all cells have together." */
    private static void freshCounts() {
        for (int kind = 0; kind <= 2; kind++) {
            PuzzlePress press = opened(kind);
            int each = kind == 1 ? 4 : 2;
            int cells = Readout.cellsOf(press);
            for (int givens = 1; givens <= cells; givens++) {
                press.give(givens - 1, 1);
                int want = cells * each - givens * (each - 1);
                due("kind " + kind + ", " + givens + " givens, fresh()", press.fresh(), want);
            }
            press.reason(1);
            due("kind " + kind + ", all given, fresh()", press.fresh(), cells);
        }
    }

    /** "the first one (the one of the first cell, of this the least value)"; "0 when there is none" */
    private static void steps() {
        PuzzlePress press = new PuzzlePress();
        for (int cell = 0; cell < 25; cell++) {
            due("a new object, step " + cell, press.step(), 1001 + 10 * cell);
        }
        due("all is told", press.step(), 0);
        due("all is told, candidates", totalOf(press), 25);
        due("all is told, once more", press.step(), 0);
        // The last cell and the greatest value have their numbers.
        PuzzlePress square = opened(1);
        for (int cell = 0; cell < 15; cell++) {
            square.give(cell, new int[] {1, 2, 3, 4, 2, 1, 4, 3, 3, 4, 1, 2, 4, 3, 2}[cell]);
        }
        dueSteps("one cell is open", square, 1152, 1153, 1154, 0);
        // Rule 2 would take 0 from cell 0 from the beginning, but waits until rule 1 has none, in whatever cell.
        dueSteps("a hard picture", picture(HARD_PICTURE), 1030, 1081, 1170, 1121, 1180, 1151, 1221, 2000, 1011);
    }

    /** "All cells get givens: their values in the first filling. Answers how many had none." */
    private static void fulls() {
        for (int kind = 0; kind <= 2; kind++) {
            for (int left = 0; left <= 25; left++) {
                PuzzlePress press = opened(kind);
                int cells = Readout.cellsOf(press);
                due("kind " + kind + ", full()", press.full(), cells);
                for (int cell = 0; cell < left && cell < cells; cell++) {
                    press.give(cells - 1 - cell, NONE);
                }
                due("kind " + kind + ", full() with " + left + " without", press.full(), Math.min(left, cells));
                for (int cell = 0; cell < cells; cell++) {
                    due("kind " + kind + ", given(" + cell + ")", press.given(cell), press.value(cell));
                }
            }
        }
    }

    /** "it has none any more, if the grade is 1 .. most then; otherwise it stays. Answers how many went." */
    private static void thins() {
        // No given is needed; then there is none.
        PuzzlePress bare = new PuzzlePress();
        bare.full();
        due("none is needed, thin(1)", bare.thin(1), 25);
        due("there is none, thin(1)", bare.thin(1), 0);
        // Each is tried once, by rising numbers: of two, either of which would do, the later stays.
        PuzzlePress two = picture(1, 1, 0, 0, 0, 1, 1);
        two.give(0, 1);
        two.give(6, 1);
        due("either would do, thin(3)", two.thin(3), 1);
        due("the first went", two.given(0), NONE);
        due("the second stays", two.given(6), 1);
        due("it is needed, thin(3)", two.thin(3), 0);
        due("it stays", two.given(6), 1);
        // A grade may rise up to most and no further.
        PuzzlePress hard = picture(HARD_PICTURE);
        hard.give(0, 1);
        due("a given makes it easy, grade()", hard.grade(), 1);
        due("a given makes it easy, thin(1)", hard.thin(1), 0);
        due("a given makes it easy, thin(2)", hard.thin(2), 1);
        due("without it, grade()", hard.grade(), 2);
        due("without it, thin(2)", hard.thin(2), 0);
        due("without it, thin(3)", hard.thin(3), 0);
    }
}

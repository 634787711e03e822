import java.util.ArrayList;
import java.util.Collections;
import java.util.List;
import java.util.Random;

/**
 * Makes the same calls on a PuzzlePress and on a Model and holds their answers against each other. The puzzles are
 * made from fillings, some of them spoiled, so that all grades come up. The seeds are fixed: each run is the same.
 * Arguments: how many puzzles, and the first seed.
 */
public final class ReferenceTest {
    private static final int[] CLUES = {0, 1, 2, 3, 4, 5, 11, 12, 13, 21, 22, 31, 111};
    private static final int[] WRONG = {-1, 5, 6, 10, 16, 25, 32, 64, 100, -2, Integer.MAX_VALUE, Integer.MIN_VALUE};

    private static final int THROWN = Integer.MIN_VALUE;

    private interface Call {
        int make();
    }

    private static int wrong = 0;
    private static final int[] GRADES = new int[15];

    private final Random random;
    private final long seed;
    private final PuzzlePress press = new PuzzlePress();
    private final Model model = new Model();
    private final List<String> log = new ArrayList<>();
    private int kind;
    private int cells;
    private int[] filling;
    private boolean spoiled;

    private ReferenceTest(long seed) {
        this.seed = seed;
        this.random = new Random(seed);
    }

    public static void main(String[] args) {
        int puzzles = args.length > 0 ? Integer.parseInt(args[0]) : 240;
        long first = args.length > 1 ? Long.parseLong(args[1]) : 1;
        for (long seed = first; seed < first + puzzles && wrong < 5; seed++) {
            new ReferenceTest(seed).run((int) (seed % 3));
        }
        for (int i = 0; i < 3; i++) {
            System.out.print("kind " + i + ", puzzles of each grade:");
            for (int grade = 0; grade <= 4; grade++) {
                System.out.print(" " + GRADES[5 * i + grade]);
            }
            System.out.println();
        }
        System.out.println(wrong == 0 ? "all answers are as the model's" : wrong + " answers are not as the model's");
        if (wrong != 0) {
            System.exit(1);
        }
    }

    private static String outcome(Call call) {
        try {
            return String.valueOf(call.make());
        } catch (RuntimeException e) {
            return e.getClass().getName();
        }
    }

    private int both(String name, Call ofPress, Call ofModel) {
        String got = outcome(ofPress);
        String want = outcome(ofModel);
        log.add(name + " = " + want);
        if (!got.equals(want)) {
            wrong++;
            System.out.println("seed " + seed + ": " + log + " but got " + got);
        }
        return want.matches("-?[0-9]+") ? Integer.parseInt(want) : THROWN;
    }

    private void open(int k) {
        both("open(" + k + ")", () -> press.open(k), () -> model.open(k));
    }

    private void clue(int line, int clue) {
        both("clue(" + line + "," + clue + ")", () -> press.clue(line, clue), () -> model.clue(line, clue));
    }

    private int group(int cell, int group) {
        return both("group(" + cell + "," + group + ")",
                () -> press.group(cell, group), () -> model.group(cell, group));
    }

    private void rule(int group, int rule, int number) {
        both("rule(" + group + "," + rule + "," + number + ")",
                () -> press.rule(group, rule, number), () -> model.rule(group, rule, number));
    }

    private void give(int cell, int value) {
        both("give(" + cell + "," + value + ")", () -> press.give(cell, value), () -> model.give(cell, value));
    }

    private void given(int cell) {
        both("given(" + cell + ")", () -> press.given(cell), () -> model.given(cell));
    }

    private void value(int cell) {
        both("value(" + cell + ")", () -> press.value(cell), () -> model.value(cell));
    }

    private void candidates(int cell) {
        both("candidates(" + cell + ")", () -> press.candidates(cell), () -> model.candidates(cell));
    }

    private void fresh() {
        both("fresh()", press::fresh, model::fresh);
    }

    private void reason(int most) {
        both("reason(" + most + ")", () -> press.reason(most), () -> model.reason(most));
    }

    private int step() {
        return both("step()", press::step, model::step);
    }

    private int grade() {
        return both("grade()", press::grade, model::grade);
    }

    private void fillings() {
        both("fillings()", press::fillings, model::fillings);
    }

    private void full() {
        both("full()", press::full, model::full);
    }

    private void thin(int most) {
        both("thin(" + most + ")", () -> press.thin(most), () -> model.thin(most));
    }

    private void kindCall() {
        both("kind()", press::kind, model::kind);
    }

    private void run(int newKind) {
        kind = newKind;
        cells = kind == 1 ? 16 : 25;
        spoiled = random.nextInt(5) == 0;
        makePuzzle();
        look();
        int grade = grade();
        GRADES[5 * kind + Math.max(0, grade)]++;
        for (int turn = 0; turn < 25; turn++) {
            act();
        }
        look();
        fresh();
        int steps = random.nextInt(80);
        for (int i = 0; i < steps && step() != 0; i++) {
            candidates(random.nextInt(cells));
        }
        look();
        if (random.nextInt(4) == 0) {
            full();
            thin(1 + random.nextInt(3));
            look();
        }
    }

    private void makePuzzle() {
        if (random.nextInt(4) == 0) {
            open(random.nextInt(3));
        }
        open(kind);
        kindCall();
        if (kind == 0) {
            makePicture();
        } else if (kind == 1) {
            makeSquare();
        } else {
            makeStars();
        }
        if (spoiled) {
            change();
        }
        int part = random.nextInt(4);
        for (int cell = 0; cell < cells; cell++) {
            if (random.nextInt(12) < part) {
                give(cell, filling[cell]);
            }
        }
    }

    private void makePicture() {
        filling = new int[25];
        int dense = 3 + random.nextInt(5);
        for (int cell = 0; cell < 25; cell++) {
            filling[cell] = random.nextInt(10) < dense ? 1 : 0;
        }
        for (int line = 0; line < 10; line++) {
            int clue = 0;
            int length = 0;
            for (int i = 0; i <= 5; i++) {
                if (i < 5 && filling[line < 5 ? 5 * line + i : 5 * i + line - 5] == 1) {
                    length++;
                } else if (length > 0) {
                    clue = 10 * clue + length;
                    length = 0;
                }
            }
            clue(line, clue);
        }
    }

    private void makeSquare() {
        filling = new int[16];
        List<Integer> values = new ArrayList<>(List.of(1, 2, 3, 4));
        List<Integer> rows = new ArrayList<>(List.of(0, 1, 2, 3));
        Collections.shuffle(values, random);
        Collections.shuffle(rows, random);
        boolean crossed = random.nextBoolean();
        for (int cell = 0; cell < 16; cell++) {
            int row = rows.get(cell / 4);
            filling[cell] = values.get(crossed ? row ^ cell % 4 : (row + cell) % 4);
        }
        int[] groups = new int[16];
        for (int cell = 0; cell < 16; cell++) {
            groups[cell] = cell;
        }
        int moves = random.nextInt(24);
        for (int i = 0; i < moves; i++) {
            int cell = random.nextInt(16);
            int group = groups[random.nextInt(16)];
            boolean fits = true;
            for (int other = 0; other < 16; other++) {
                fits &= other == cell || groups[other] != group || filling[other] != filling[cell];
            }
            if ((fits || spoiled) && group(cell, group) != THROWN) {
                groups[cell] = group;
            }
        }
        makeRules(groups);
    }

    private void makeRules(int[] groups) {
        for (int group = 0; group < 16; group++) {
            int sum = 0;
            int product = 1;
            for (int cell = 0; cell < 16; cell++) {
                if (groups[cell] == group) {
                    sum += filling[cell];
                    product *= filling[cell];
                }
            }
            int rule = random.nextInt(3);
            if (random.nextInt(3) != 0) {
                rule(group, rule, rule == 0 ? random.nextInt(100) : rule == 1 ? sum : Math.min(99, product));
            }
        }
    }

    private void makeStars() {
        int[][] places = {{0, 2, 4, 1, 3}, {0, 3, 1, 4, 2}, {1, 3, 0, 2, 4}, {1, 4, 2, 0, 3}, {2, 0, 3, 1, 4},
            {2, 4, 1, 3, 0}, {3, 0, 2, 4, 1}, {3, 1, 4, 2, 0}, {4, 1, 3, 0, 2}, {4, 2, 0, 3, 1}, {2, 4, 0, 3, 1}};
        int[] place = places[random.nextInt(places.length)];
        filling = new int[25];
        int[] groups = new int[25];
        java.util.Arrays.fill(groups, -1);
        for (int row = 0; row < 5; row++) {
            filling[5 * row + place[row]] = 1;
            groups[5 * row + place[row]] = row;
        }
        boolean grown = random.nextInt(4) != 0;
        for (int i = 0; i < 2000; i++) {
            int cell = random.nextInt(25);
            int next = cell + List.of(1, -1, 5, -5).get(random.nextInt(4));
            boolean beside = next >= 0 && next < 25 && (next / 5 == cell / 5 || next % 5 == cell % 5);
            if (groups[cell] == -1 && beside && groups[next] != -1) {
                groups[cell] = grown ? groups[next] : random.nextInt(5);
            }
        }
        for (int cell = 0; cell < 25; cell++) {
            group(cell, Math.max(0, groups[cell]));
        }
    }

    private void change() {
        int choice = random.nextInt(3);
        if (choice == 0 || kind == 0 && choice == 1) {
            give(random.nextInt(cells), (kind == 1 ? 1 : 0) + random.nextInt(kind == 1 ? 4 : 2));
        } else if (kind == 0) {
            clue(random.nextInt(10), CLUES[random.nextInt(CLUES.length)]);
        } else if (choice == 1 || kind == 2) {
            group(random.nextInt(cells), random.nextInt(kind == 1 ? 16 : 5));
        } else {
            rule(random.nextInt(16), random.nextInt(3), random.nextInt(25));
        }
    }

    private void act() {
        switch (random.nextInt(16)) {
            case 0 -> reason(1);
            case 1 -> reason(2);
            case 2, 3 -> step();
            case 4 -> fresh();
            case 5 -> fillings();
            case 6 -> grade();
            case 7 -> value(random.nextInt(cells + 2) - 1);
            case 8 -> given(random.nextInt(cells + 2) - 1);
            case 9 -> give(random.nextInt(cells), -1);
            case 10 -> {
                if (random.nextInt(3) == 0) {
                    change();
                }
            }
            case 11 -> {
                if (random.nextInt(8) == 0) {
                    full();
                }
            }
            case 12 -> {
                if (random.nextInt(8) == 0) {
                    thin(random.nextInt(3) + 1);
                }
            }
            case 13 -> candidates(random.nextInt(cells + 2) - 1);
            default -> wrongCall();
        }
    }

    private int any() {
        return random.nextBoolean() ? random.nextInt(8) - 1 : WRONG[random.nextInt(WRONG.length)];
    }

    /** Calls whose arguments are mostly wrong, often in several ways at once. */
    private void wrongCall() {
        switch (random.nextInt(9)) {
            case 0 -> clue(any(), random.nextInt(10) == 0 ? any() : 6 + random.nextInt(5));
            case 1 -> clue(WRONG[random.nextInt(WRONG.length)], any());
            case 2 -> group(any(), WRONG[random.nextInt(WRONG.length)]);
            case 3 -> rule(any(), any(), WRONG[random.nextInt(WRONG.length)]);
            case 4 -> give(any(), WRONG[random.nextInt(WRONG.length)]);
            case 5 -> reason(WRONG[random.nextInt(WRONG.length)]);
            case 6 -> thin(WRONG[random.nextInt(WRONG.length)]);
            case 7 -> open(3 + random.nextInt(3));
            default -> candidates(any());
        }
    }

    private void look() {
        for (int cell = 0; cell < cells; cell++) {
            candidates(cell);
            given(cell);
            if (cell % 3 == 0) {
                value(cell);
            }
        }
        fillings();
        kindCall();
    }
}

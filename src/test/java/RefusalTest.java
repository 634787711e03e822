import java.util.ArrayList;
import java.util.List;
import java.util.NoSuchElementException;
import java.util.function.Supplier;
import java.util.function.ToIntFunction;

/**
 * Every call of the face with arguments just inside, just outside and far outside of each limit, in puzzles of all
 * kinds and grades. Which exception is due is told here once more, in the document's order. Behind a refused call an
 * object must read as one that was not called; behind one that sets something all candidates must be as at first.
 */
public final class RefusalTest {
    private static final Class<?> ARGUMENT = IllegalArgumentException.class;
    private static final Class<?> STATE = IllegalStateException.class;
    private static final Class<?> INDEX = IndexOutOfBoundsException.class;
    private static final Class<?> UNSUPPORTED = UnsupportedOperationException.class;
    private static final Class<?> NO_ELEMENT = NoSuchElementException.class;
    private static final Class<?> NOTHING = Void.class;

    private static final int LEAST = Integer.MIN_VALUE;
    private static final int GREATEST = Integer.MAX_VALUE;
    /** Beside the limits: numbers that a shift, a byte, a short or a product with 4 or 5 would bring back inside. */
    private static final int[] CELLS = {
        LEAST, LEAST + 1, -65536, -256, -25, -1, 0, 1, 15, 16, 24, 25, 31, 32, 64, 256, 65536, 1 << 30, GREATEST};
    private static final int[] LINES = {LEAST, -10, -1, 0, 4, 5, 9, 10, 32, 256, 65536, 1 << 30, GREATEST};
    private static final int[] CLUES = {
        LEAST, -111, -11, -1, 0, 1, 5, 6, 9, 10, 11, 13, 14, 22, 23, 31, 32, 41, 51, 100, 101, 110, 111, 112, 121, 211,
        256, 1111, 11111, 65536 + 1, 1 << 30, GREATEST};
    private static final int[] GROUPS = {LEAST, -16, -1, 0, 1, 4, 5, 15, 16, 32, 256, 65536, 1 << 30, GREATEST};
    private static final int[] RULES = {LEAST, -1, 0, 1, 2, 3, 256, 65536, GREATEST};
    private static final int[] NUMBERS = {LEAST, -99, -1, 0, 1, 99, 100, 256, 65536, GREATEST};
    private static final int[] VALUES = {LEAST, -2, -1, 0, 1, 2, 4, 5, 32, 255, 256, 65535, GREATEST};
    private static final int[] MOSTS = {LEAST, -1, 0, 1, 2, 3, 4, 256, 257, 65537, GREATEST};
    private static final int[] KINDS = {LEAST, -1, 0, 1, 2, 3, 256, 65536, GREATEST};

    private static final int[] ALL_APART = {0, 1, 2, 3, 4, 5, 6, 7, 8, 9, 10, 11, 12, 13, 14, 15};
    private static final int[] BY_ROWS = {0, 0, 0, 0, 0, 1, 1, 1, 1, 1, 2, 2, 2, 2, 2, 3, 3, 3, 3, 3, 4, 4, 4, 4, 4};
    private static final int[] IN_ONE = {1, 1, 1, 1, 1, 1, 1, 1, 1, 1, 1, 1, 1, 1, 1, 1, 1, 1, 1, 1, 1, 1, 1, 1, 1};
    private static final int[] CAGES = {0, 0, 2, 2, 0, 1, 3, 2, 8, 8, 10, 10, 9, 8, 10, 11};
    private static final int[] FOURS = {0, 0, 1, 1, 0, 0, 1, 1, 4, 4, 15, 15, 4, 4, 15, 15};
    /** Grade 2 and grade 3. */
    private static final int[] HARD_STARS = {
        0, 0, 0, 0, 0, 0, 0, 1, 1, 1, 0, 3, 1, 1, 2, 3, 3, 3, 4, 2, 3, 3, 3, 4, 4};
    private static final int[] HARDEST_STARS = {
        2, 0, 2, 0, 2, 4, 1, 3, 1, 4, 2, 3, 3, 3, 2, 4, 0, 3, 0, 4, 4, 1, 2, 1, 2};

    private static final Tally TALLY = new Tally();

    /** A puzzle, and what of it decides which calls are refused. */
    private record Setup(String name, int kind, int grade, int[] groupOf, Supplier<PuzzlePress> maker) {
        int cells() {
            return kind == 1 ? 16 : 25;
        }

        int groups() {
            return kind == 1 ? 16 : 5;
        }
    }

    /** What a call does to the object when it is not refused. */
    private enum Effect { TELLS, RENEWS, TAKES }

    private record Call(String text, Class<?> due, Effect effect, ToIntFunction<PuzzlePress> maker) {
    }

    private RefusalTest() {
    }

    public static void main(String[] args) {
        for (Setup setup : setups()) {
            String untouched = Readout.of(setup.maker.get());
            TALLY.due(setup.name + ": grade", setup.maker.get().grade(), setup.grade);
            for (Call call : callsOn(setup)) {
                check(setup, call, untouched);
            }
        }
        TALLY.end();
    }

    private static void check(Setup setup, Call call, String untouched) {
        String what = setup.name + ", " + call.text;
        PuzzlePress press = setup.maker.get();
        Class<?> thrown = NOTHING;
        try {
            call.maker.applyAsInt(press);
        } catch (RuntimeException e) {
            thrown = e.getClass();
        }
        TALLY.dueText(what + " throws", thrown.getSimpleName(), call.due.getSimpleName());
        if (call.due != NOTHING || call.effect == Effect.TELLS) {
            TALLY.dueText(what + " leaves", Readout.of(press), untouched);
        } else if (call.effect == Effect.RENEWS) {
            dueAtFirst(what, press);
        }
    }

    private static void dueAtFirst(String what, PuzzlePress press) {
        int all = press.kind() == 1 ? 0b11110 : 0b11;
        int total = 0;
        for (int cell = 0; cell < Readout.cellsOf(press); cell++) {
            int given = press.given(cell);
            int want = given == PuzzlePress.NONE ? all : 1 << given;
            TALLY.due(what + ", then candidates(" + cell + ")", press.candidates(cell), want);
            total += Integer.bitCount(want);
        }
        TALLY.due(what + ", then fresh()", press.fresh(), total);
    }

    private static List<Setup> setups() {
        List<Setup> setups = new ArrayList<>();
        setups.add(new Setup("a new object", 0, 1, null, PuzzlePress::new));
        setups.add(new Setup("a picture after steps", 0, 2, null,
                () -> stepped(picture(12, 11, 11, 3, 1, 11, 2, 11, 12, 11), 3)));
        setups.add(new Setup("a picture of two fillings", 0, 4, null, RefusalTest::twoWays));
        setups.add(new Setup("a picture but one cell full", 0, 1, null, () -> filled(twoWays())));
        setups.add(new Setup("a picture all full", 0, 1, null, RefusalTest::allFull));
        setups.add(new Setup("a picture without a filling", 0, 0, null, () -> stepped(picture(5, 0, 111), 7)));
        setups.add(new Setup("a picture without candidates", 0, 0, null, () -> reasoned(picture(5, 0, 111), 1)));
        setups.add(new Setup("a new square", 1, 4, ALL_APART, () -> grouped(1, ALL_APART)));
        setups.add(new Setup("a square after steps", 1, 2, CAGES, () -> stepped(cages(), 5)));
        setups.add(new Setup("a square of full groups", 1, 4, FOURS, RefusalTest::fours));
        setups.add(new Setup("a square but one cell full", 1, 1, FOURS, () -> filled(fours())));
        setups.add(new Setup("a square without a filling", 1, 0, CAGES, RefusalTest::spoiltCages));
        setups.add(new Setup("a square with a wrong group of none", 1, 0, CAGES, RefusalTest::spoiltByNone));
        setups.add(new Setup("new stars", 2, 4, BY_ROWS, () -> grouped(2, BY_ROWS)));
        setups.add(new Setup("stars after steps", 2, 2, HARD_STARS, () -> stepped(grouped(2, HARD_STARS), 9)));
        setups.add(new Setup("the hardest stars", 2, 3, HARDEST_STARS, () -> grouped(2, HARDEST_STARS)));
        setups.add(new Setup("stars but one cell full", 2, 1, HARD_STARS, () -> filled(grouped(2, HARD_STARS))));
        setups.add(new Setup("stars in one group", 2, 0, IN_ONE, () -> stepped(grouped(2, IN_ONE), 2)));
        return setups;
    }

    private static PuzzlePress picture(int... clues) {
        PuzzlePress press = new PuzzlePress();
        for (int line = 0; line < clues.length; line++) {
            press.clue(line, clues[line]);
        }
        return press;
    }

    private static PuzzlePress twoWays() {
        PuzzlePress press = picture(1, 1, 0, 0, 0, 1, 1);
        press.give(24, 0);
        return reasoned(press, 1);
    }

    private static PuzzlePress allFull() {
        PuzzlePress press = picture(12, 11, 11, 3, 1, 11, 2, 11, 12, 11);
        press.full();
        return press;
    }

    private static PuzzlePress grouped(int kind, int[] groups) {
        PuzzlePress press = new PuzzlePress();
        press.open(kind);
        for (int cell = 0; cell < groups.length; cell++) {
            press.group(cell, groups[cell]);
        }
        return press;
    }

    private static PuzzlePress cages() {
        PuzzlePress press = grouped(1, CAGES);
        press.rule(0, 2, 6);
        press.rule(2, 2, 24);
        press.rule(8, 2, 6);
        press.rule(10, 1, 8);
        return press;
    }

    private static PuzzlePress spoiltCages() {
        PuzzlePress press = cages();
        press.give(15, 4);
        press.give(11, 4);
        return stepped(press, 4);
    }

    private static PuzzlePress spoiltByNone() {
        PuzzlePress press = cages();
        press.rule(4, 2, 0);
        return stepped(press, 4);
    }

    private static PuzzlePress fours() {
        PuzzlePress press = grouped(1, FOURS);
        press.rule(0, 1, 10);
        press.rule(1, 2, 24);
        press.rule(4, 0, 99);
        press.rule(5, 1, 0);
        press.rule(6, 2, 1);
        press.give(3, 2);
        return reasoned(press, 2);
    }

    private static PuzzlePress stepped(PuzzlePress press, int steps) {
        for (int i = 0; i < steps; i++) {
            press.step();
        }
        return press;
    }

    private static PuzzlePress reasoned(PuzzlePress press, int most) {
        press.reason(most);
        return press;
    }

    /** The first and the last cell have givens; one has none, and a refused call must not bring its candidates back. */
    private static PuzzlePress filled(PuzzlePress press) {
        press.full();
        press.give(7, PuzzlePress.NONE);
        return reasoned(press, 1);
    }

    private static List<Call> callsOn(Setup setup) {
        List<Call> calls = new ArrayList<>();
        addTelling(calls);
        addOpen(calls);
        addClue(calls, setup);
        addGroup(calls, setup);
        addRule(calls, setup);
        addGive(calls, setup);
        addOfCell(calls, setup);
        addMost(calls, setup);
        calls.add(new Call("full()", setup.grade == 0 ? NO_ELEMENT : NOTHING, Effect.RENEWS, PuzzlePress::full));
        return calls;
    }

    private static void addTelling(List<Call> calls) {
        calls.add(new Call("kind()", NOTHING, Effect.TELLS, PuzzlePress::kind));
        calls.add(new Call("fillings()", NOTHING, Effect.TELLS, PuzzlePress::fillings));
        calls.add(new Call("grade()", NOTHING, Effect.TELLS, PuzzlePress::grade));
        calls.add(new Call("fresh()", NOTHING, Effect.RENEWS, PuzzlePress::fresh));
        calls.add(new Call("step()", NOTHING, Effect.TAKES, PuzzlePress::step));
    }

    private static void addOpen(List<Call> calls) {
        for (int kind : KINDS) {
            Class<?> due = kind == 0 || kind == 1 || kind == 2 ? NOTHING : ARGUMENT;
            calls.add(new Call("open(" + kind + ")", due, Effect.RENEWS, press -> press.open(kind)));
        }
    }

    private static void addClue(List<Call> calls, Setup setup) {
        for (int line : LINES) {
            for (int clue : CLUES) {
                Class<?> due = setup.kind != 0 ? STATE
                        : !isIn(line, 0, 9) ? INDEX
                        : !isClue(clue) ? ARGUMENT
                        : NOTHING;
                calls.add(new Call("clue(" + line + ", " + clue + ")", due, Effect.RENEWS,
                        press -> press.clue(line, clue)));
            }
        }
    }

    private static void addGroup(List<Call> calls, Setup setup) {
        for (int cell : CELLS) {
            for (int group : GROUPS) {
                Class<?> due = setup.kind == 0 ? STATE
                        : !isIn(cell, 0, setup.cells() - 1) || !isIn(group, 0, setup.groups() - 1) ? INDEX
                        : setup.kind == 1 && othersIn(setup, cell, group) == 4 ? UNSUPPORTED
                        : NOTHING;
                calls.add(new Call("group(" + cell + ", " + group + ")", due, Effect.RENEWS,
                        press -> press.group(cell, group)));
            }
        }
    }

    private static void addRule(List<Call> calls, Setup setup) {
        for (int group : GROUPS) {
            for (int rule : RULES) {
                for (int number : NUMBERS) {
                    Class<?> due = setup.kind != 1 ? STATE
                            : !isIn(group, 0, 15) ? INDEX
                            : !isIn(rule, 0, 2) || !isIn(number, 0, 99) ? ARGUMENT
                            : NOTHING;
                    calls.add(new Call("rule(" + group + ", " + rule + ", " + number + ")", due, Effect.RENEWS,
                            press -> press.rule(group, rule, number)));
                }
            }
        }
    }

    private static void addGive(List<Call> calls, Setup setup) {
        int least = setup.kind == 1 ? 1 : 0;
        int greatest = setup.kind == 1 ? 4 : 1;
        for (int cell : CELLS) {
            for (int value : VALUES) {
                Class<?> due = !isIn(cell, 0, setup.cells() - 1) ? INDEX
                        : value != -1 && !isIn(value, least, greatest) ? ARGUMENT
                        : NOTHING;
                calls.add(new Call("give(" + cell + ", " + value + ")", due, Effect.RENEWS,
                        press -> press.give(cell, value)));
            }
        }
    }

    private static void addOfCell(List<Call> calls, Setup setup) {
        for (int cell : CELLS) {
            Class<?> due = isIn(cell, 0, setup.cells() - 1) ? NOTHING : INDEX;
            Class<?> ofValue = due == NOTHING && setup.grade == 0 ? NO_ELEMENT : due;
            calls.add(new Call("given(" + cell + ")", due, Effect.TELLS, press -> press.given(cell)));
            calls.add(new Call("candidates(" + cell + ")", due, Effect.TELLS, press -> press.candidates(cell)));
            calls.add(new Call("value(" + cell + ")", ofValue, Effect.TELLS, press -> press.value(cell)));
        }
    }

    private static void addMost(List<Call> calls, Setup setup) {
        for (int most : MOSTS) {
            Class<?> ofReason = most == 1 || most == 2 ? NOTHING : ARGUMENT;
            Class<?> ofThin = !isIn(most, 1, 3) ? ARGUMENT
                    : setup.grade == 0 || setup.grade > most ? STATE
                    : NOTHING;
            calls.add(new Call("reason(" + most + ")", ofReason, Effect.TAKES, press -> press.reason(most)));
            calls.add(new Call("thin(" + most + ")", ofThin, Effect.RENEWS, press -> press.thin(most)));
        }
    }

    private static boolean isIn(int number, int least, int greatest) {
        return number >= least && number <= greatest;
    }

    /** By the figures of the number, as the document tells it. */
    private static boolean isClue(int number) {
        if (number == 0) {
            return true;
        }
        String figures = String.valueOf(number);
        int room = figures.length() - 1;
        for (char figure : figures.toCharArray()) {
            if (figure < '1' || figure > '5') {
                return false;
            }
            room += figure - '0';
        }
        return figures.length() <= 3 && room <= 5;
    }

    private static int othersIn(Setup setup, int cell, int group) {
        int others = 0;
        for (int other = 0; other < setup.cells(); other++) {
            others += other != cell && setup.groupOf[other] == group ? 1 : 0;
        }
        return others;
    }
}

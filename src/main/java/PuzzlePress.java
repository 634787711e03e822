import java.util.NoSuchElementException;

/**
 * A press for puzzles of three kinds: pictures, squares and stars.
 *
 * All candidates of a puzzle stand together in one long: for each cell, from cell 0 on, one bit for
 * each value, the least value lowest. The lowest bit is thus the first candidate of the first cell,
 * a copy costs nothing, and no call makes an object.
 */
public final class PuzzlePress {
    public static final int NONE = -1;

    private static final int PICTURE = 0;
    private static final int SQUARE = 1;
    private static final int STARS = 2;

    private static final int MOST_CELLS = 25;
    private static final int MOST_CANDIDATES = 64;
    private static final int MOST_NUMBER = 99;

    private static final int GRADE_NO_FILLING = 0;
    private static final int GRADE_BY_LINES = 1;
    private static final int GRADE_BY_BOTH = 2;
    private static final int GRADE_BY_NEITHER = 3;
    private static final int GRADE_SEVERAL = 4;

    private final Picture picture = new Picture();
    private final Square square = new Square();
    private final Stars stars = new Stars();
    private final Reasoner reasoner = new Reasoner();
    private final int[] givens = new int[MOST_CELLS];
    private Kind now = picture;
    private int kindNumber = PICTURE;
    private long left;

    public PuzzlePress() {
        startNew(PICTURE);
    }

    public int open(int kind) throws IllegalArgumentException {
        if (kind != PICTURE && kind != SQUARE && kind != STARS) {
            throw new IllegalArgumentException();
        }
        startNew(kind);
        return now.cells;
    }

    public int kind() {
        return kindNumber;
    }

    public int clue(int line, int clue)
            throws IllegalStateException, IndexOutOfBoundsException, IllegalArgumentException {
        if (kindNumber != PICTURE) {
            throw new IllegalStateException();
        }
        if (line < 0 || line >= Picture.LINES) {
            throw new IndexOutOfBoundsException();
        }
        if (!picture.isClue(clue)) {
            throw new IllegalArgumentException();
        }
        int before = picture.clues[line];
        picture.clues[line] = clue;
        renewUnits();
        return before;
    }

    public int group(int cell, int group)
            throws IllegalStateException, IndexOutOfBoundsException, UnsupportedOperationException {
        if (kindNumber == PICTURE) {
            throw new IllegalStateException();
        }
        if (!now.hasCell(cell) || group < 0 || group >= now.groups) {
            throw new IndexOutOfBoundsException();
        }
        int others = now.membersOf(group) & ~(1 << cell);
        if (kindNumber == SQUARE && Integer.bitCount(others) >= Square.MOST_IN_GROUP) {
            throw new UnsupportedOperationException();
        }
        int before = now.groupOf[cell];
        now.groupOf[cell] = group;
        renewUnits();
        return before;
    }

    public int rule(int group, int rule, int number)
            throws IllegalStateException, IndexOutOfBoundsException, IllegalArgumentException {
        if (kindNumber != SQUARE) {
            throw new IllegalStateException();
        }
        if (group < 0 || group >= square.groups) {
            throw new IndexOutOfBoundsException();
        }
        if (!Square.isRule(rule) || number < 0 || number > MOST_NUMBER) {
            throw new IllegalArgumentException();
        }
        square.rules[group] = rule;
        square.numbers[group] = number;
        renewUnits();
        return Integer.bitCount(square.membersOf(group));
    }

    public int give(int cell, int value) throws IndexOutOfBoundsException, IllegalArgumentException {
        checkCell(cell);
        if (value != NONE && !now.hasValue(value)) {
            throw new IllegalArgumentException();
        }
        int before = givens[cell];
        givens[cell] = value;
        left = atFirst();
        return before;
    }

    public int given(int cell) throws IndexOutOfBoundsException {
        checkCell(cell);
        return givens[cell];
    }

    public int fillings() {
        return reasoner.countFillings(now, atFirst(), 2);
    }

    public int value(int cell) throws IndexOutOfBoundsException, NoSuchElementException {
        checkCell(cell);
        return now.valueIn(firstFilling(), cell);
    }

    public int fresh() {
        left = atFirst();
        return Long.bitCount(left);
    }

    public int reason(int most) throws IllegalArgumentException {
        if (most != 1 && most != 2) {
            throw new IllegalArgumentException();
        }
        left = most == 1 ? reasoner.byLines(left) : reasoner.byBoth(now, left);
        return Long.bitCount(left);
    }

    public int candidates(int cell) throws IndexOutOfBoundsException {
        checkCell(cell);
        return now.valuesIn(left, cell);
    }

    public int step() {
        int rule = 1;
        long taken = reasoner.firstByLines(left);
        if (taken == 0L) {
            rule = 2;
            taken = reasoner.firstBySupposing(now, left);
        }
        if (taken == 0L) {
            return 0;
        }
        left &= ~taken;
        int cell = now.cellOf(taken);
        return 1000 * rule + 10 * cell + now.valueIn(taken, cell);
    }

    public int grade() {
        long first = atFirst();
        int found = reasoner.countFillings(now, first, 2);
        if (found != 1) {
            return found == 0 ? GRADE_NO_FILLING : GRADE_SEVERAL;
        }
        // A filling is never reasoned away, so every cell keeps one candidate at least.
        if (Long.bitCount(reasoner.byLines(first)) == now.cells) {
            return GRADE_BY_LINES;
        }
        return Long.bitCount(reasoner.byBoth(now, first)) == now.cells ? GRADE_BY_BOTH : GRADE_BY_NEITHER;
    }

    public int full() throws NoSuchElementException {
        long filling = firstFilling();
        int had = 0;
        for (int cell = 0; cell < now.cells; cell++) {
            if (givens[cell] != NONE) {
                had++;
            }
            givens[cell] = now.valueIn(filling, cell);
        }
        left = atFirst();
        return now.cells - had;
    }

    public int thin(int most) throws IllegalArgumentException, IllegalStateException {
        if (most < GRADE_BY_LINES || most > GRADE_BY_NEITHER) {
            throw new IllegalArgumentException();
        }
        if (!isEasy(grade(), most)) {
            throw new IllegalStateException();
        }
        int went = 0;
        for (int cell = 0; cell < now.cells; cell++) {
            int before = givens[cell];
            givens[cell] = NONE;
            if (before != NONE && isEasy(grade(), most)) {
                went++;
            } else {
                givens[cell] = before;
            }
        }
        left = atFirst();
        return went;
    }

    private void checkCell(int cell) throws IndexOutOfBoundsException {
        if (!now.hasCell(cell)) {
            throw new IndexOutOfBoundsException();
        }
    }

    private void startNew(int kind) {
        kindNumber = kind;
        now = kind == PICTURE ? picture : kind == SQUARE ? square : stars;
        now.makeNew();
        for (int cell = 0; cell < MOST_CELLS; cell++) {
            givens[cell] = NONE;
        }
        reasoner.units.dropAll();
        now.addFixedUnits(reasoner.units);
        reasoner.units.fixAll();
        renewUnits();
    }

    /** Only the units that clues, groups and rules tell are made again: the others stay as open made them. */
    private void renewUnits() {
        reasoner.units.dropUnfixed();
        now.addOtherUnits(reasoner.units);
        left = atFirst();
    }

    private long atFirst() {
        long first = 0L;
        for (int cell = 0; cell < now.cells; cell++) {
            first |= givens[cell] == NONE ? now.allOf(cell) : now.bit(cell, givens[cell]);
        }
        return first;
    }

    private long firstFilling() throws NoSuchElementException {
        if (reasoner.countFillings(now, atFirst(), 1) == 0) {
            throw new NoSuchElementException();
        }
        return reasoner.firstFound;
    }

    private static boolean isEasy(int grade, int most) {
        return grade != GRADE_NO_FILLING && grade <= most;
    }

    /** How a kind of puzzle is laid out, and which units it has. Sets of cells are ints, a bit for each cell. */
    private abstract static class Kind {
        final int side;
        final int cells;
        final int least;
        final int values;
        final int groups;
        final int[] groupOf;

        Kind(int side, int least, int values, int groups) {
            this.side = side;
            this.cells = side * side;
            this.least = least;
            this.values = values;
            this.groups = groups;
            this.groupOf = new int[side * side];
        }

        /** Brings clues, groups and rules to what a new puzzle has. */
        abstract void makeNew();

        /** The units that every puzzle of the kind has. */
        abstract void addFixedUnits(Units units);

        /** The units that hang on clues, groups and rules. */
        abstract void addOtherUnits(Units units);

        final boolean hasCell(int cell) {
            return cell >= 0 && cell < cells;
        }

        final boolean hasValue(int value) {
            return value >= least && value < least + values;
        }

        final long bit(int cell, int value) {
            return 1L << (cell * values + value - least);
        }

        final long allOf(int cell) {
            return ((1L << values) - 1L) << (cell * values);
        }

        final int cellOf(long bit) {
            for (int cell = 0; cell < cells; cell++) {
                if ((bit & allOf(cell)) != 0L) {
                    return cell;
                }
            }
            return NONE;
        }

        final int valuesIn(long candidates, int cell) {
            return (int) ((candidates & allOf(cell)) >>> (cell * values)) << least;
        }

        final int valueIn(long filling, int cell) {
            return firstOf(valuesIn(filling, cell));
        }

        final int membersOf(int group) {
            int members = 0;
            for (int cell = 0; cell < cells; cell++) {
                if (groupOf[cell] == group) {
                    members |= 1 << cell;
                }
            }
            return members;
        }

        final int rowCells(int row) {
            int set = 0;
            for (int column = 0; column < side; column++) {
                set |= 1 << (row * side + column);
            }
            return set;
        }

        final int columnCells(int column) {
            int set = 0;
            for (int row = 0; row < side; row++) {
                set |= 1 << (row * side + column);
            }
            return set;
        }

        final long scopeOf(int set) {
            long scope = 0L;
            for (int cell = 0; cell < cells; cell++) {
                if ((set >> cell & 1) == 1) {
                    scope |= allOf(cell);
                }
            }
            return scope;
        }

        static int firstOf(int set) {
            return Integer.bitCount((set & -set) - 1);
        }
    }

    /** Lines with clues. */
    private static final class Picture extends Kind {
        static final int LINES = 10;
        private static final int SIDE = 5;
        private static final int LINE_FILLINGS = 1 << SIDE;

        final int[] clues = new int[LINES];
        private final int[] clueOf = new int[LINE_FILLINGS];

        Picture() {
            super(SIDE, 0, 2, 0);
            for (int filling = 0; filling < LINE_FILLINGS; filling++) {
                clueOf[filling] = readClue(filling);
            }
        }

        void makeNew() {
            for (int line = 0; line < LINES; line++) {
                clues[line] = 0;
            }
        }

        void addFixedUnits(Units units) {
            // Each line hangs on its clue.
        }

        void addOtherUnits(Units units) {
            for (int line = 0; line < LINES; line++) {
                units.begin(scopeOf(line < SIDE ? rowCells(line) : columnCells(line - SIDE)));
                for (int filling = 0; filling < LINE_FILLINGS; filling++) {
                    if (clueOf[filling] == clues[line]) {
                        units.addWay(wayOf(line, filling));
                    }
                }
            }
        }

        /** Figures that have room in a line are those that some filling of it has. */
        boolean isClue(int clue) {
            for (int filling = 0; filling < LINE_FILLINGS; filling++) {
                if (clueOf[filling] == clue) {
                    return true;
                }
            }
            return false;
        }

        /** The clue of a line whose cells are the bits of the filling, the first cell lowest. */
        private static int readClue(int filling) {
            int clue = 0;
            int length = 0;
            // One place behind the last cell, where no bit is, ends the last stretch.
            for (int place = 0; place <= SIDE; place++) {
                if ((filling >> place & 1) == 1) {
                    length++;
                } else if (length > 0) {
                    clue = 10 * clue + length;
                    length = 0;
                }
            }
            return clue;
        }

        private long wayOf(int line, int filling) {
            long way = 0L;
            for (int place = 0; place < SIDE; place++) {
                int cell = line < SIDE ? line * SIDE + place : place * SIDE + line - SIDE;
                way |= bit(cell, filling >> place & 1);
            }
            return way;
        }
    }

    /** Rows, columns and groups without two alike, the groups with rules. */
    private static final class Square extends Kind {
        static final int MOST_IN_GROUP = 4;
        private static final int SIDE = 4;
        private static final int GROUPS = 16;
        private static final int FREE = 0;
        private static final int SUM = 1;
        private static final int PRODUCT = 2;

        final int[] rules = new int[GROUPS];
        final int[] numbers = new int[GROUPS];

        Square() {
            super(SIDE, 1, 4, GROUPS);
        }

        static boolean isRule(int rule) {
            return rule == FREE || rule == SUM || rule == PRODUCT;
        }

        void makeNew() {
            for (int group = 0; group < GROUPS; group++) {
                groupOf[group] = group;
                rules[group] = FREE;
                numbers[group] = 0;
            }
        }

        void addFixedUnits(Units units) {
            for (int line = 0; line < SIDE; line++) {
                addUnlike(units, rowCells(line), FREE, 0);
                addUnlike(units, columnCells(line), FREE, 0);
            }
        }

        void addOtherUnits(Units units) {
            for (int group = 0; group < GROUPS; group++) {
                addUnlike(units, membersOf(group), rules[group], numbers[group]);
            }
        }

        private void addUnlike(Units units, int set, int rule, int number) {
            units.begin(scopeOf(set));
            addWays(units, set, 0L, 0, rule, number);
        }

        /** Fills the set's cells behind those of the way; used has the values of these, and so ends the depth. */
        private void addWays(Units units, int set, long way, int used, int rule, int number) {
            if (set == 0) {
                if (obeys(used, rule, number)) {
                    units.addWay(way);
                }
                return;
            }
            int cell = firstOf(set);
            for (int value = least; value < least + values; value++) {
                if ((used & 1 << value) == 0) {
                    addWays(units, set & ~(1 << cell), way | bit(cell, value), used | 1 << value, rule, number);
                }
            }
        }

        /** No two values are alike, so that the set of those used tells their sum and their product. */
        private boolean obeys(int used, int rule, int number) {
            int sum = 0;
            int product = 1;
            for (int value = least; value < least + values; value++) {
                if ((used & 1 << value) != 0) {
                    sum += value;
                    product *= value;
                }
            }
            return rule == FREE || (rule == SUM ? sum : product) == number;
        }
    }

    /** Rows, columns and groups with just one star, and no two stars that touch. */
    private static final class Stars extends Kind {
        private static final int SIDE = 5;
        private static final int GROUPS = 5;

        Stars() {
            super(SIDE, 0, 2, GROUPS);
        }

        void makeNew() {
            for (int cell = 0; cell < cells; cell++) {
                groupOf[cell] = cell / SIDE;
            }
        }

        void addFixedUnits(Units units) {
            for (int line = 0; line < SIDE; line++) {
                addJustOne(units, rowCells(line));
                addJustOne(units, columnCells(line));
            }
            for (int cell = 0; cell < cells; cell++) {
                for (int other = cell + 1; other < cells; other++) {
                    if (touch(cell, other)) {
                        addNotBoth(units, cell, other);
                    }
                }
            }
        }

        void addOtherUnits(Units units) {
            for (int group = 0; group < GROUPS; group++) {
                int members = membersOf(group);
                if (members != 0) {
                    addJustOne(units, members);
                }
            }
        }

        private static boolean touch(int cell, int other) {
            return Math.abs(cell / SIDE - other / SIDE) <= 1 && Math.abs(cell % SIDE - other % SIDE) <= 1;
        }

        private void addJustOne(Units units, int set) {
            units.begin(scopeOf(set));
            for (int star = 0; star < cells; star++) {
                if ((set >> star & 1) == 1) {
                    units.addWay(wayWithStar(set, star));
                }
            }
        }

        private long wayWithStar(int set, int star) {
            long way = 0L;
            for (int cell = 0; cell < cells; cell++) {
                if ((set >> cell & 1) == 1) {
                    way |= bit(cell, cell == star ? 1 : 0);
                }
            }
            return way;
        }

        private void addNotBoth(Units units, int cell, int other) {
            units.begin(allOf(cell) | allOf(other));
            units.addWay(bit(cell, 0) | bit(other, 0));
            units.addWay(bit(cell, 0) | bit(other, 1));
            units.addWay(bit(cell, 1) | bit(other, 0));
        }
    }

    /** The units of a puzzle, each as all ways in which its cells, by themselves, meet its condition. */
    private static final class Units {
        /** Among stars: 10 lines, 72 pairs that touch, 5 groups. */
        private static final int MOST_UNITS = 87;
        /** In a square: 24 for each of 8 lines and 5 groups of three, 4 for one cell, 1 for 10 groups of none. */
        private static final int MOST_WAYS = 326;

        private final long[] scopes = new long[MOST_UNITS];
        /** Behind the last unit stands where the ways end. */
        private final int[] starts = new int[MOST_UNITS + 1];
        private final long[] ways = new long[MOST_WAYS];
        private int count;
        private int fixed;

        void dropAll() {
            count = 0;
            fixed = 0;
        }

        void fixAll() {
            fixed = count;
        }

        void dropUnfixed() {
            count = fixed;
        }

        /** Begins a unit; its scope is all candidates that its cells can have. */
        void begin(long scope) {
            if (count < MOST_UNITS) {
                scopes[count] = scope;
                count++;
                starts[count] = starts[count - 1];
            }
        }

        void addWay(long way) {
            int end = starts[count];
            if (count > 0 && end < MOST_WAYS) {
                ways[end] = way;
                starts[count] = end + 1;
            }
        }

        /** Whether each unit can be met by itself: of one without cells the candidates tell nothing. */
        boolean haveWays() {
            for (int unit = 0; unit < count; unit++) {
                if (starts[unit] == starts[unit + 1]) {
                    return false;
                }
            }
            return true;
        }

        /** What rule 1 leaves when it looks at all units before it takes anything. */
        long keptAtOnce(long from) {
            long kept = from;
            for (int unit = 0; unit < count; unit++) {
                kept &= keptBy(unit, from);
            }
            return kept;
        }

        /**
         * What rule 1 leaves, over and over. Only the units with a changed candidate are looked at: the
         * others would take nothing. A cell without candidates empties its row, and this each column:
         * so what is left is either 0 or has candidates for every cell.
         */
        long narrow(long from, long changed) {
            long kept = from;
            long news = changed;
            // Each round but the last takes one of the candidates at least.
            for (int round = 0; round <= MOST_CANDIDATES && news != 0L; round++) {
                long before = kept;
                for (int unit = 0; unit < count; unit++) {
                    if ((scopes[unit] & news) != 0L) {
                        kept &= keptBy(unit, kept);
                        if ((kept & scopes[unit]) == 0L) {
                            return 0L;
                        }
                    }
                }
                news = before & ~kept;
            }
            return kept;
        }

        private long keptBy(int unit, long from) {
            long missing = ~from;
            long kept = ~scopes[unit];
            for (int way = starts[unit]; way < starts[unit + 1]; way++) {
                if ((ways[way] & missing) == 0L) {
                    kept |= ways[way];
                }
            }
            return kept;
        }
    }

    /** Reasons by both rules, and counts fillings by reasoning and trying. */
    private static final class Reasoner {
        private static final long ALL = -1L;

        final Units units = new Units();
        long firstFound;
        private int found;

        long byLines(long from) {
            return units.narrow(from, ALL);
        }

        long byBoth(Kind kind, long from) {
            long kept = byLines(from);
            long news = ALL;
            // Each round but the last takes one of the candidates at least.
            for (int round = 0; round <= MOST_CANDIDATES && news != 0L; round++) {
                long before = kept;
                kept = supposeEach(kind, kept);
                news = before & ~kept;
            }
            return kept;
        }

        /** The first candidate that rule 1 takes, or 0. */
        long firstByLines(long from) {
            long taken = from & ~units.keptAtOnce(from);
            return taken & -taken;
        }

        /** The first candidate that rule 2 takes, or 0; rule 1 must have none to take. */
        long firstBySupposing(Kind kind, long from) {
            for (int cell = 0; cell < kind.cells; cell++) {
                for (int value = kind.least; value < kind.least + kind.values; value++) {
                    if (isRefuted(kind, from, cell, value)) {
                        return kind.bit(cell, value);
                    }
                }
            }
            return 0L;
        }

        /** How many fillings there are, as far as the most that are asked for; firstFound is the first of them. */
        int countFillings(Kind kind, long from, int most) {
            found = 0;
            firstFound = 0L;
            if (units.haveWays()) {
                search(kind, from, ALL, most, 0);
            }
            return found;
        }

        private long supposeEach(Kind kind, long from) {
            long kept = from;
            for (int cell = 0; cell < kind.cells; cell++) {
                for (int value = kind.least; value < kind.least + kind.values; value++) {
                    if (isRefuted(kind, kept, cell, value)) {
                        long bit = kind.bit(cell, value);
                        kept = units.narrow(kept & ~bit, bit);
                    }
                }
            }
            return kept;
        }

        /** Whether rule 2 takes a candidate; rule 1 must have none to take, for only what is supposed is followed. */
        private boolean isRefuted(Kind kind, long from, int cell, int value) {
            long bit = kind.bit(cell, value);
            long others = from & kind.allOf(cell) & ~bit;
            return (from & bit) != 0L && units.narrow(from & ~others, others) == 0L;
        }

        /** The first open cell is tried from the least value on, so that fillings are found in their order. */
        private void search(Kind kind, long from, long changed, int most, int depth) {
            long kept = units.narrow(from, changed);
            if (kept == 0L) {
                return;
            }
            int cell = firstOpenCell(kind, kept);
            if (cell == NONE) {
                firstFound = found == 0 ? kept : firstFound;
                found++;
                return;
            }
            // Each level settles one cell at least, so that the depth stays below the number of cells.
            for (int value = kind.least; value < kind.least + kind.values && depth < kind.cells; value++) {
                long bit = kind.bit(cell, value);
                long others = kept & kind.allOf(cell) & ~bit;
                if ((kept & bit) != 0L && found < most) {
                    search(kind, kept & ~others, others, most, depth + 1);
                }
            }
        }

        private static int firstOpenCell(Kind kind, long candidates) {
            for (int cell = 0; cell < kind.cells; cell++) {
                if (Long.bitCount(candidates & kind.allOf(cell)) > 1) {
                    return cell;
                }
            }
            return NONE;
        }
    }
}

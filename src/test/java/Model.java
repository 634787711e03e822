import java.util.ArrayList;
import java.util.List;
import java.util.NoSuchElementException;

/**
 * The document once more, as slow and as literal as it can be: rule 1 tries all fillings of a unit, cell by cell,
 * and fillings are found by trying values. ReferenceTest holds the class against it.
 */
final class Model {
    private static final int NONE = -1;

    /** Some cells with a condition. */
    private abstract static class Unit {
        final int[] cells;

        Unit(List<Integer> list) {
            cells = list.stream().mapToInt(Integer::intValue).toArray();
        }

        /** Whether the condition can still hold; cells that are not filled yet have NONE. */
        abstract boolean canHold(int[] filled);

        final boolean isFilled(int[] filled) {
            for (int cell : cells) {
                if (filled[cell] == NONE) {
                    return false;
                }
            }
            return true;
        }

        final boolean has(int cell) {
            for (int own : cells) {
                if (own == cell) {
                    return true;
                }
            }
            return false;
        }
    }

    private static final class Line extends Unit {
        final int clue;

        Line(List<Integer> list, int clue) {
            super(list);
            this.clue = clue;
        }

        @Override
        boolean canHold(int[] filled) {
            if (!isFilled(filled)) {
                return true;
            }
            StringBuilder text = new StringBuilder();
            for (int cell : cells) {
                text.append(filled[cell]);
            }
            StringBuilder figures = new StringBuilder();
            for (String stretch : text.toString().split("0")) {
                if (!stretch.isEmpty()) {
                    figures.append(stretch.length());
                }
            }
            return figures.toString().equals(clue == 0 ? "" : String.valueOf(clue));
        }
    }

    private static final class Unlike extends Unit {
        final int rule;
        final int number;

        Unlike(List<Integer> list, int rule, int number) {
            super(list);
            this.rule = rule;
            this.number = number;
        }

        @Override
        boolean canHold(int[] filled) {
            int sum = 0;
            int product = 1;
            for (int i = 0; i < cells.length; i++) {
                for (int j = 0; j < i; j++) {
                    if (filled[cells[i]] != NONE && filled[cells[i]] == filled[cells[j]]) {
                        return false;
                    }
                }
                sum += filled[cells[i]];
                product *= filled[cells[i]];
            }
            return !isFilled(filled) || rule == 0 || rule == 1 && sum == number || rule == 2 && product == number;
        }
    }

    private static final class Ones extends Unit {
        final int fewest;

        Ones(List<Integer> list, int fewest) {
            super(list);
            this.fewest = fewest;
        }

        @Override
        boolean canHold(int[] filled) {
            int ones = 0;
            for (int cell : cells) {
                ones += filled[cell] == 1 ? 1 : 0;
            }
            return ones <= 1 && (!isFilled(filled) || ones >= fewest);
        }
    }

    private int kind;
    private int side;
    private int cells;
    private int least;
    private int greatest;
    private int[] givens;
    private int[] clues;
    private int[] groups;
    private int[] rules;
    private int[] numbers;
    private List<Unit> units;
    private boolean[][] left;

    Model() {
        open(0);
    }

    int open(int newKind) {
        if (newKind < 0 || newKind > 2) {
            throw new IllegalArgumentException();
        }
        kind = newKind;
        side = kind == 1 ? 4 : 5;
        cells = side * side;
        least = kind == 1 ? 1 : 0;
        greatest = kind == 1 ? 4 : 1;
        givens = new int[cells];
        clues = new int[10];
        groups = new int[cells];
        rules = new int[16];
        numbers = new int[16];
        for (int cell = 0; cell < cells; cell++) {
            givens[cell] = NONE;
            groups[cell] = kind == 1 ? cell : cell / 5;
        }
        changed();
        return cells;
    }

    int kind() {
        return kind;
    }

    int clue(int line, int clue) {
        if (kind != 0) {
            throw new IllegalStateException();
        }
        if (line < 0 || line > 9) {
            throw new IndexOutOfBoundsException();
        }
        if (!isClue(clue)) {
            throw new IllegalArgumentException();
        }
        int before = clues[line];
        clues[line] = clue;
        changed();
        return before;
    }

    private static boolean isClue(int clue) {
        if (clue == 0) {
            return true;
        }
        String figures = String.valueOf(clue);
        if (!figures.matches("[1-5]{1,3}")) {
            return false;
        }
        return figures.chars().map(c -> c - '0').sum() + figures.length() - 1 <= 5;
    }

    int group(int cell, int group) {
        if (kind == 0) {
            throw new IllegalStateException();
        }
        if (cell < 0 || cell >= cells || group < 0 || group >= (kind == 1 ? 16 : 5)) {
            throw new IndexOutOfBoundsException();
        }
        int others = 0;
        for (int other = 0; other < cells; other++) {
            others += other != cell && groups[other] == group ? 1 : 0;
        }
        if (kind == 1 && others == 4) {
            throw new UnsupportedOperationException();
        }
        int before = groups[cell];
        groups[cell] = group;
        changed();
        return before;
    }

    int rule(int group, int rule, int number) {
        if (kind != 1) {
            throw new IllegalStateException();
        }
        if (group < 0 || group > 15) {
            throw new IndexOutOfBoundsException();
        }
        if (rule < 0 || rule > 2 || number < 0 || number > 99) {
            throw new IllegalArgumentException();
        }
        rules[group] = rule;
        numbers[group] = number;
        changed();
        return cellsOfGroup(group).size();
    }

    int give(int cell, int value) {
        checkCell(cell);
        if (value != NONE && (value < least || value > greatest)) {
            throw new IllegalArgumentException();
        }
        int before = givens[cell];
        givens[cell] = value;
        changed();
        return before;
    }

    int given(int cell) {
        checkCell(cell);
        return givens[cell];
    }

    int fillings() {
        return Math.min(2, findFillings().size());
    }

    int value(int cell) {
        checkCell(cell);
        return firstFilling()[cell];
    }

    int fresh() {
        left = atFirst();
        return total(left);
    }

    int reason(int most) {
        if (most != 1 && most != 2) {
            throw new IllegalArgumentException();
        }
        reasonBy(most, left);
        return total(left);
    }

    int candidates(int cell) {
        checkCell(cell);
        int bits = 0;
        for (int value = least; value <= greatest; value++) {
            bits |= left[cell][value] ? 1 << value : 0;
        }
        return bits;
    }

    int step() {
        for (int rule = 1; rule <= 2; rule++) {
            for (int cell = 0; cell < cells; cell++) {
                for (int value = least; value <= greatest; value++) {
                    if (left[cell][value] && takes(rule, left, cell, value)) {
                        left[cell][value] = false;
                        return 1000 * rule + 10 * cell + value;
                    }
                }
            }
        }
        return 0;
    }

    int grade() {
        int count = fillings();
        if (count != 1) {
            return count == 0 ? 0 : 4;
        }
        for (int most = 1; most <= 2; most++) {
            boolean[][] reasoned = atFirst();
            reasonBy(most, reasoned);
            if (hasOneEach(reasoned)) {
                return most;
            }
        }
        return 3;
    }

    int full() {
        int[] filling = firstFilling();
        int without = 0;
        for (int cell = 0; cell < cells; cell++) {
            without += givens[cell] == NONE ? 1 : 0;
            givens[cell] = filling[cell];
        }
        changed();
        return without;
    }

    int thin(int most) {
        if (most < 1 || most > 3) {
            throw new IllegalArgumentException();
        }
        int grade = grade();
        if (grade == 0 || grade > most) {
            throw new IllegalStateException();
        }
        int went = 0;
        for (int cell = 0; cell < cells; cell++) {
            int before = givens[cell];
            if (before != NONE) {
                givens[cell] = NONE;
                grade = grade();
                if (grade >= 1 && grade <= most) {
                    went++;
                } else {
                    givens[cell] = before;
                }
            }
        }
        changed();
        return went;
    }

    private void checkCell(int cell) {
        if (cell < 0 || cell >= cells) {
            throw new IndexOutOfBoundsException();
        }
    }

    private void changed() {
        units = new ArrayList<>();
        for (int line = 0; line < 2 * side; line++) {
            List<Integer> list = cellsOfLine(line);
            units.add(kind == 0 ? new Line(list, clues[line]) : kind == 1 ? new Unlike(list, 0, 0) : new Ones(list, 1));
        }
        if (kind == 1) {
            for (int group = 0; group < 16; group++) {
                units.add(new Unlike(cellsOfGroup(group), rules[group], numbers[group]));
            }
        }
        if (kind == 2) {
            addStarUnits();
        }
        left = atFirst();
    }

    private void addStarUnits() {
        for (int group = 0; group < 5; group++) {
            if (!cellsOfGroup(group).isEmpty()) {
                units.add(new Ones(cellsOfGroup(group), 1));
            }
        }
        for (int cell = 0; cell < cells; cell++) {
            for (int other = 0; other < cell; other++) {
                int down = Math.abs(cell / 5 - other / 5);
                int across = Math.abs(cell % 5 - other % 5);
                if (Math.max(down, across) == 1) {
                    units.add(new Ones(List.of(cell, other), 0));
                }
            }
        }
    }

    private List<Integer> cellsOfLine(int line) {
        List<Integer> list = new ArrayList<>();
        for (int i = 0; i < side; i++) {
            list.add(line < side ? line * side + i : i * side + line - side);
        }
        return list;
    }

    private List<Integer> cellsOfGroup(int group) {
        List<Integer> list = new ArrayList<>();
        for (int cell = 0; cell < cells; cell++) {
            if (groups[cell] == group) {
                list.add(cell);
            }
        }
        return list;
    }

    private int[] emptyFilling() {
        int[] filled = new int[cells];
        java.util.Arrays.fill(filled, NONE);
        return filled;
    }

    private int[] firstFilling() {
        List<int[]> found = findFillings();
        if (found.isEmpty()) {
            throw new NoSuchElementException();
        }
        return found.get(0);
    }

    /** The first two fillings, or as many as there are. */
    private List<int[]> findFillings() {
        List<int[]> found = new ArrayList<>();
        int[] filled = emptyFilling();
        for (Unit unit : units) {
            if (unit.cells.length == 0 && !unit.canHold(filled)) {
                return found;
            }
        }
        fillFrom(0, filled, found);
        return found;
    }

    private void fillFrom(int cell, int[] filled, List<int[]> found) {
        if (cell == cells) {
            found.add(filled.clone());
            return;
        }
        for (int value = least; value <= greatest && found.size() < 2; value++) {
            if (givens[cell] == NONE || givens[cell] == value) {
                filled[cell] = value;
                if (canAllHold(cell, filled)) {
                    fillFrom(cell + 1, filled, found);
                }
                filled[cell] = NONE;
            }
        }
    }

    private boolean canAllHold(int cell, int[] filled) {
        for (Unit unit : units) {
            if (unit.has(cell) && !unit.canHold(filled)) {
                return false;
            }
        }
        return true;
    }

    private boolean[][] atFirst() {
        boolean[][] first = new boolean[cells][greatest + 1];
        for (int cell = 0; cell < cells; cell++) {
            for (int value = least; value <= greatest; value++) {
                first[cell][value] = givens[cell] == NONE || givens[cell] == value;
            }
        }
        return first;
    }

    private static int total(boolean[][] candidates) {
        int total = 0;
        for (boolean[] ofCell : candidates) {
            total += count(ofCell);
        }
        return total;
    }

    private static int count(boolean[] ofCell) {
        int count = 0;
        for (boolean is : ofCell) {
            count += is ? 1 : 0;
        }
        return count;
    }

    private static boolean hasOneEach(boolean[][] candidates) {
        for (boolean[] ofCell : candidates) {
            if (count(ofCell) != 1) {
                return false;
            }
        }
        return true;
    }

    private static boolean someCellIsBare(boolean[][] candidates) {
        for (boolean[] ofCell : candidates) {
            if (count(ofCell) == 0) {
                return true;
            }
        }
        return false;
    }

    private void reasonBy(int most, boolean[][] candidates) {
        boolean took = true;
        while (took) {
            took = false;
            for (int rule = 1; rule <= most && !took; rule++) {
                took = takeAll(rule, candidates);
            }
        }
    }

    private boolean takeAll(int rule, boolean[][] candidates) {
        boolean took = false;
        for (int cell = 0; cell < cells; cell++) {
            for (int value = least; value <= greatest; value++) {
                if (candidates[cell][value] && takes(rule, candidates, cell, value)) {
                    candidates[cell][value] = false;
                    took = true;
                }
            }
        }
        return took;
    }

    private boolean takes(int rule, boolean[][] candidates, int cell, int value) {
        return rule == 1 ? someUnitForbids(candidates, cell, value) : isRefuted(candidates, cell, value);
    }

    private boolean someUnitForbids(boolean[][] candidates, int cell, int value) {
        for (Unit unit : units) {
            if (unit.has(cell)) {
                int[] filled = emptyFilling();
                filled[cell] = value;
                if (!canBeFilled(unit, 0, filled, candidates)) {
                    return true;
                }
            }
        }
        return false;
    }

    private boolean canBeFilled(Unit unit, int index, int[] filled, boolean[][] candidates) {
        if (!unit.canHold(filled)) {
            return false;
        }
        if (index == unit.cells.length) {
            return true;
        }
        int cell = unit.cells[index];
        if (filled[cell] != NONE) {
            return canBeFilled(unit, index + 1, filled, candidates);
        }
        for (int value = least; value <= greatest; value++) {
            if (candidates[cell][value]) {
                filled[cell] = value;
                boolean can = canBeFilled(unit, index + 1, filled, candidates);
                filled[cell] = NONE;
                if (can) {
                    return true;
                }
            }
        }
        return false;
    }

    private boolean isRefuted(boolean[][] candidates, int cell, int value) {
        boolean[][] supposed = new boolean[cells][];
        for (int other = 0; other < cells; other++) {
            supposed[other] = candidates[other].clone();
        }
        supposed[cell] = new boolean[greatest + 1];
        supposed[cell][value] = true;
        reasonBy(1, supposed);
        return someCellIsBare(supposed);
    }
}

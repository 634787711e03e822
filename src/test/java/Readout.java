import java.util.NoSuchElementException;

/**
 * All that can be learnt of an object by calls, as a text: two objects with the same readout are in the same state.
 * It takes less than 300 calls and leaves the object in another state.
 */
final class Readout {
    private final PuzzlePress press;
    private final StringBuilder text = new StringBuilder();

    private Readout(PuzzlePress press) {
        this.press = press;
    }

    static String of(PuzzlePress press) {
        return new Readout(press).read();
    }

    static int cellsOf(PuzzlePress press) {
        return press.kind() == 1 ? 16 : 25;
    }

    private String read() {
        text.append("kind ").append(press.kind());
        readCandidates("candidates");
        for (int cell = 0; cell < cellsOf(press); cell++) {
            text.append(cell == 0 ? " givens " : ",").append(press.given(cell));
        }
        readFillings();
        text.append(" steps ").append(press.step()).append(',').append(press.step());
        readLines();
        readGroups();
        // A clue, group or rule that was changed behind the caller's back works now at the latest.
        text.append(" fresh ").append(press.fresh());
        text.append(" by rule 1 ").append(press.reason(1));
        readCandidates("of them");
        text.append(" by both ").append(press.reason(2));
        readCandidates("of them");
        readFillings();
        return text.toString();
    }

    private void readCandidates(String name) {
        for (int cell = 0; cell < cellsOf(press); cell++) {
            text.append(cell == 0 ? " " + name + " " : ",").append(press.candidates(cell));
        }
    }

    private void readFillings() {
        text.append(" fillings ").append(press.fillings()).append(" grade ").append(press.grade());
        try {
            for (int cell = 0; cell < cellsOf(press); cell++) {
                text.append(cell == 0 ? " first " : "").append(press.value(cell));
            }
        } catch (NoSuchElementException e) {
            text.append(" without");
        }
    }

    private void readLines() {
        for (int line = 0; line < 10 && press.kind() == 0; line++) {
            int clue = press.clue(line, 0);
            press.clue(line, clue);
            text.append(line == 0 ? " clues " : ",").append(clue);
        }
    }

    private void readGroups() {
        for (int cell = 0; cell < cellsOf(press) && press.kind() != 0; cell++) {
            int group = groupOf(cell);
            press.group(cell, group);
            text.append(cell == 0 ? " groups " : ",").append(group);
        }
    }

    /** Moves the cell to the first group that has room, for a full one answers nothing. */
    private int groupOf(int cell) {
        for (int to = 0; to < 5; to++) {
            try {
                return press.group(cell, to);
            } catch (UnsupportedOperationException e) {
                continue;
            }
        }
        return PuzzlePress.NONE;
    }
}

/** Texts of lines, kept as revisions in a tree; any revision can be taken out again, compared and removed. */
public final class RevisionStore {
    private static final int MAX_LINES = 10;
    private static final int MAX_LINE = 255;
    private static final int MAX_HELD = 12;
    private static final int MAX_NUMBERS = 40;

    private static final int REFUSED = -1;
    private static final int WITHOUT_PARENT = -1;
    private static final int NO_REVISION = -2;

    // The working text stands behind the texts of the revisions in the same arrays,
    // so that one method copies and one method compares both kinds.
    private static final int WORKING = MAX_NUMBERS;
    private static final int WORKING_START = WORKING * MAX_LINES;
    private static final int TEXTS = MAX_NUMBERS + 1;
    private static final int CELLS = TEXTS * MAX_LINES;

    // The table of distances has a row and a column for the empty beginning of a text too.
    private static final int TABLE_SIDE = MAX_LINES + 1;
    private static final int TABLE_CELLS = TABLE_SIDE * TABLE_SIDE;

    // No number is given twice and there are few of them, so a revision's number is its index everywhere.
    private final int[] cells = new int[CELLS];
    private final int[] lengths = new int[TEXTS];
    private final int[] parents = new int[MAX_NUMBERS];
    private final boolean[] held = new boolean[MAX_NUMBERS];
    private final int[] table = new int[TABLE_CELLS];
    private int heldCount;
    private int givenNumbers;

    public RevisionStore() {
        heldCount = 0;
        givenNumbers = 0;
    }

    public int put(int place, int line) {
        int count = lengths[WORKING];
        if (line < 0 || line > MAX_LINE || place < 0 || place > count || count >= MAX_LINES) {
            return REFUSED;
        }
        for (int i = count; i > place; i--) {
            cells[WORKING_START + i] = cells[WORKING_START + i - 1];
        }
        cells[WORKING_START + place] = line;
        lengths[WORKING] = count + 1;
        return count + 1;
    }

    public int take(int place) {
        int count = lengths[WORKING];
        if (place < 0 || place >= count) {
            return REFUSED;
        }
        int taken = cells[WORKING_START + place];
        for (int i = place; i < count - 1; i++) {
            cells[WORKING_START + i] = cells[WORKING_START + i + 1];
        }
        lengths[WORKING] = count - 1;
        return taken;
    }

    public int lines() {
        return lengths[WORKING];
    }

    public int line(int place) {
        if (place < 0 || place >= lengths[WORKING]) {
            return REFUSED;
        }
        return cells[WORKING_START + place];
    }

    public int commit(int parent) {
        if (parent != WITHOUT_PARENT && !isHeld(parent)) {
            return REFUSED;
        }
        if (heldCount >= MAX_HELD || givenNumbers >= MAX_NUMBERS) {
            return REFUSED;
        }
        int number = givenNumbers;
        copyText(WORKING, number);
        parents[number] = parent == WITHOUT_PARENT ? NO_REVISION : parent;
        held[number] = true;
        heldCount++;
        givenNumbers++;
        return number;
    }

    public int checkout(int revision) {
        if (!isHeld(revision)) {
            return REFUSED;
        }
        copyText(revision, WORKING);
        return lengths[WORKING];
    }

    public int remove(int revision) {
        if (!isHeld(revision)) {
            return REFUSED;
        }
        for (int child = 0; child < MAX_NUMBERS; child++) {
            if (held[child] && parents[child] == revision) {
                parents[child] = parents[revision];
            }
        }
        held[revision] = false;
        heldCount--;
        return heldCount;
    }

    public int parent(int revision) {
        if (!isHeld(revision)) {
            return REFUSED;
        }
        return parents[revision];
    }

    public int distance(int a, int b) {
        if (!isHeld(a) || !isHeld(b)) {
            return REFUSED;
        }
        return textDistance(a, b);
    }

    public int changed(int revision) {
        if (!isHeld(revision)) {
            return REFUSED;
        }
        return textDistance(WORKING, revision);
    }

    public int base(int a, int b) {
        if (!isHeld(a) || !isHeld(b)) {
            return REFUSED;
        }
        int forebear = a;
        for (int step = 0; step < MAX_HELD && isHeld(forebear); step++) {
            if (isInRowOf(forebear, b)) {
                return forebear;
            }
            forebear = parents[forebear];
        }
        return NO_REVISION;
    }

    public int find() {
        for (int number = 0; number < MAX_NUMBERS; number++) {
            if (held[number] && isSameText(WORKING, number)) {
                return number;
            }
        }
        return REFUSED;
    }

    private boolean isHeld(int revision) {
        return revision >= 0 && revision < MAX_NUMBERS && held[revision];
    }

    // A row holds each revision at most once, so it ends within as many steps as revisions can be held.
    private boolean isInRowOf(int sought, int revision) {
        int forebear = revision;
        for (int step = 0; step < MAX_HELD && isHeld(forebear); step++) {
            if (forebear == sought) {
                return true;
            }
            forebear = parents[forebear];
        }
        return false;
    }

    private void copyText(int from, int to) {
        int count = lengths[from];
        for (int i = 0; i < count; i++) {
            cells[to * MAX_LINES + i] = cells[from * MAX_LINES + i];
        }
        lengths[to] = count;
    }

    private boolean isSameText(int one, int other) {
        int count = lengths[one];
        if (count != lengths[other]) {
            return false;
        }
        for (int i = 0; i < count; i++) {
            if (cells[one * MAX_LINES + i] != cells[other * MAX_LINES + i]) {
                return false;
            }
        }
        return true;
    }

    // The table holds, for every beginning of the one text and every beginning of the other,
    // their distance: each one follows from those of shorter beginnings.
    private int textDistance(int one, int other) {
        int rows = lengths[one];
        int columns = lengths[other];
        for (int row = 0; row <= rows; row++) {
            for (int column = 0; column <= columns; column++) {
                int least = beginningsDistance(one, row, other, column);
                table[row * TABLE_SIDE + column] = least;
            }
        }
        return table[rows * TABLE_SIDE + columns];
    }

    private int beginningsDistance(int one, int row, int other, int column) {
        if (row == 0 || column == 0) {
            return row + column;
        }
        int cell = row * TABLE_SIDE + column;
        // A last line that both share can always stay: no other choice does better.
        if (cells[one * MAX_LINES + row - 1] == cells[other * MAX_LINES + column - 1]) {
            return table[cell - TABLE_SIDE - 1];
        }
        int takenOut = table[cell - TABLE_SIDE] + 1;
        int putIn = table[cell - 1] + 1;
        return takenOut < putIn ? takenOut : putIn;
    }
}

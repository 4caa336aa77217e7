/**
 * Rising and falling subsequences of a short row of different numbers.
 *
 * The questions about k-rises and k-falls are answered from a tableau that is made by row
 * insertion (Robinson, Schensted, Knuth). By Greene's theorem its first k lines have together
 * RISE(k) filled cells, and its first k columns FALL(k).
 */
public final class RskShapes {
    private static final int CAPACITY = 10;
    private static final int GREATEST = 99;
    private static final int CELLS = CAPACITY * CAPACITY;
    // A part can end before each place, and behind the last one.
    private static final int ENDS = CAPACITY + 1;

    // Greater than every number of the row, so that a free cell takes any number.
    private static final int FREE = GREATEST + 1;

    private final int[] row = new int[CAPACITY];
    private int size;

    // Made anew for each question; nothing in them outlives the call.
    private final int[] tableau = new int[CELLS];
    private final int[] longestBefore = new int[ENDS];
    private final int[] waysBefore = new int[ENDS];

    public RskShapes() {
        size = 0;
    }

    public int push(int value) {
        if (value < 0 || value > GREATEST) {
            return -1;
        }
        if (isInRow(value)) {
            return -2;
        }
        if (size >= CAPACITY) {
            return -3;
        }
        row[size] = value;
        size++;
        return size;
    }

    public int pop() {
        if (size == 0) {
            return -1;
        }
        size--;
        return row[size];
    }

    public int exchange(int i, int j) {
        if (!isGood(i) || !isGood(j)) {
            return -1;
        }
        swap(i, j);
        return 0;
    }

    public int reverse() {
        for (int left = 0; left < size / 2; left++) {
            swap(left, size - 1 - left);
        }
        return size;
    }

    public int mirror() {
        for (int place = 0; place < size; place++) {
            row[place] = GREATEST - row[place];
        }
        return size;
    }

    public int move(int from, int to) {
        if (!isGood(from) || !isGood(to)) {
            return -1;
        }
        int value = row[from];
        // At most one of the two loops runs: the one that leads from the old place to the new.
        for (int place = from; place < to; place++) {
            row[place] = row[place + 1];
        }
        for (int place = from; place > to; place--) {
            row[place] = row[place - 1];
        }
        row[to] = value;
        return 0;
    }

    public int length() {
        return size;
    }

    public int at(int place) {
        return isGood(place) ? row[place] : -1;
    }

    public int rise(int k) {
        if (k < 0) {
            return -1;
        }
        makeTableau(size, GREATEST);
        return filledCells(k, CAPACITY);
    }

    public int fall(int k) {
        if (k < 0) {
            return -1;
        }
        makeTableau(size, GREATEST);
        return filledCells(CAPACITY, k);
    }

    public int riseOfFirst(int count, int k) {
        if (count < 0 || count > size) {
            return -1;
        }
        if (k < 0) {
            return -2;
        }
        makeTableau(count, GREATEST);
        return filledCells(k, CAPACITY);
    }

    public int riseUpTo(int bound, int k) {
        if (k < 0) {
            return -1;
        }
        makeTableau(size, bound);
        return filledCells(k, CAPACITY);
    }

    public int rises() {
        makeTableau(size, GREATEST);
        // RISE(k) reaches the whole row with the last line, and every line has a first cell.
        return filledCells(CAPACITY, 1);
    }

    public int falls() {
        makeTableau(size, GREATEST);
        return filledCells(1, CAPACITY);
    }

    public int longestRises() {
        for (int end = 0; end < size; end++) {
            countLongestBefore(end, row[end]);
        }
        // Behind the last place every number may be the last one of a part.
        countLongestBefore(size, FREE);
        return waysBefore[size];
    }

    public int words() {
        makeTableau(size, GREATEST);
        // Such lists are the standard tableaux of the same shape: a list names, number by number,
        // the line that the next cell is added to. The hook formula counts them.
        int hooks = productOfHooks();
        return hooks > 0 ? factorial(size) / hooks : 0;
    }

    public int inversions() {
        int pairs = 0;
        for (int i = 0; i < size; i++) {
            for (int j = i + 1; j < size; j++) {
                if (row[i] > row[j]) {
                    pairs++;
                }
            }
        }
        return pairs;
    }

    private boolean isGood(int place) {
        return place >= 0 && place < size;
    }

    private boolean isInRow(int value) {
        for (int place = 0; place < size; place++) {
            if (row[place] == value) {
                return true;
            }
        }
        return false;
    }

    private void swap(int i, int j) {
        int value = row[i];
        row[i] = row[j];
        row[j] = value;
    }

    // One count and one bound serve all questions: each asks of a beginning of the row, or of
    // its small numbers, or of all of it.
    private void makeTableau(int count, int bound) {
        for (int cell = 0; cell < CELLS; cell++) {
            tableau[cell] = FREE;
        }
        for (int place = 0; place < count; place++) {
            if (row[place] <= bound) {
                insert(row[place]);
            }
        }
    }

    private void insert(int value) {
        int carried = value;
        for (int line = 0; line < CAPACITY; line++) {
            carried = putInLine(line, carried);
        }
    }

    // The first greater number gives way, so that the line stays rising; it is answered because
    // it goes on to the next line. FREE changes no line, so it ends the insertion.
    private int putInLine(int line, int value) {
        int firstCell = line * CAPACITY;
        for (int cell = firstCell; cell < firstCell + CAPACITY; cell++) {
            int old = tableau[cell];
            if (old > value) {
                tableau[cell] = value;
                return old;
            }
        }
        return FREE;
    }

    private boolean isFilled(int line, int column) {
        return tableau[line * CAPACITY + column] != FREE;
    }

    // Asked for k lines or columns, k being any number, so both are held against CAPACITY too.
    private int filledCells(int lines, int columns) {
        int filled = 0;
        for (int line = 0; line < lines && line < CAPACITY; line++) {
            for (int column = 0; column < columns && column < CAPACITY; column++) {
                if (isFilled(line, column)) {
                    filled++;
                }
            }
        }
        return filled;
    }

    // Fits an int: the product divides the factorial of the length, so it is at most 10!.
    private int productOfHooks() {
        int product = 1;
        for (int line = 0; line < CAPACITY; line++) {
            for (int column = 0; column < CAPACITY; column++) {
                if (isFilled(line, column)) {
                    product *= hook(line, column);
                }
            }
        }
        return product;
    }

    private int hook(int line, int column) {
        // The cell itself belongs to its hook.
        int cells = 1;
        for (int right = column + 1; right < CAPACITY; right++) {
            if (isFilled(line, right)) {
                cells++;
            }
        }
        for (int below = line + 1; below < CAPACITY; below++) {
            if (isFilled(below, column)) {
                cells++;
            }
        }
        return cells;
    }

    private int factorial(int n) {
        int product = 1;
        for (int factor = 2; factor <= n; factor++) {
            product *= factor;
        }
        return product;
    }

    // The parts that stand before an end and have only numbers less than limit are just those
    // that a number equal to limit at that end could follow. They are counted by their last
    // place, so the ends must come from left to right.
    private void countLongestBefore(int end, int limit) {
        int longest = 0;
        // The empty part is the one part of length 0.
        int ways = 1;
        for (int last = 0; last < end; last++) {
            if (row[last] < limit) {
                int withLast = longestBefore[last] + 1;
                if (withLast > longest) {
                    longest = withLast;
                    ways = waysBefore[last];
                } else if (withLast == longest) {
                    ways += waysBefore[last];
                }
            }
        }
        longestBefore[end] = longest;
        waysBefore[end] = ways;
    }
}

/** Rows that many tests use. */
final class Rows {
    static final int MIN = Integer.MIN_VALUE;
    static final int MAX = Integer.MAX_VALUE;

    private Rows() {
    }

    /** As long as a row can be. */
    static int[] rising() {
        return new int[] {0, 1, 2, 3, 4, 5, 6, 7, 8, 9};
    }

    /** As long as a row can be. */
    static int[] falling() {
        return new int[] {9, 8, 7, 6, 5, 4, 3, 2, 1, 0};
    }

    /** As long as a row can be, with both edges of the numbers in it; 3 is not in it. */
    static int[] mixed() {
        return new int[] {4, 99, 1, 50, 0, 98, 37, 2, 60, 49};
    }

    /** Rows of each length, 0 to 10. */
    static int[] firstOfMixed(int count) {
        return ByDefinition.first(mixed(), count);
    }

    /** No place of a row of this length: just outside, far outside, and good if cut to fewer bits. */
    static int[] badPlaces(int length) {
        return new int[] {-1, length, length + 1, 10, 11, -10, 256, -256, 65536, MIN, MAX};
    }

    /** Refused by every method that takes a k. */
    static int[] badCounts() {
        return new int[] {-1, -2, -11, MIN, MIN + 1};
    }
}

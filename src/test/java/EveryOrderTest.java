/** Every question on every order of up to six numbers, against the answers by definition. */
public final class EveryOrderTest {
    private static final int[] NUMBERS = {0, 1, 37, 50, 98, 99};
    private static final Check CHECK = new Check();

    public static void main(String[] args) {
        for (int length = 0; length <= NUMBERS.length; length++) {
            // Taking the numbers from the end keeps 99 in the short rows, an edge of its own.
            int[] numbers = java.util.Arrays.copyOfRange(NUMBERS, NUMBERS.length - length, NUMBERS.length);
            everyOrder(numbers, 0);
        }
        CHECK.end("EveryOrderTest");
    }

    private static void everyOrder(int[] row, int fixed) {
        if (fixed == row.length) {
            new Run(CHECK, row).due(Questions.about(row));
            return;
        }
        for (int place = fixed; place < row.length; place++) {
            swap(row, fixed, place);
            everyOrder(row, fixed + 1);
            swap(row, fixed, place);
        }
    }

    private static void swap(int[] row, int i, int j) {
        int value = row[i];
        row[i] = row[j];
        row[j] = value;
    }
}

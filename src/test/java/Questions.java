import java.util.Arrays;

/** Asks an object every question about its row, and holds the answers against the definition. */
final class Questions {
    /** The document frees the answers behind this many calls on one object. */
    static final int CALLS = 512;

    private Questions() {
    }

    static RskShapes made(int[] row) {
        RskShapes shapes = new RskShapes();
        for (int value : row) {
            shapes.push(value);
        }
        return shapes;
    }

    /** Each group of questions has an object of its own, so that none comes to 512 calls. */
    static void askAll(Check check, int[] row) {
        askWhole(check, row, made(row));
        askFirst(check, row, made(row));
        askUpTo(check, row, made(row));
    }

    static void askWhole(Check check, int[] row, RskShapes shapes) {
        String name = Arrays.toString(row);
        int n = row.length;
        int[] rises = ByDefinition.risesByCount(row);
        int[] falls = ByDefinition.fallsByCount(row);
        for (int k = -1; k <= n + 1; k++) {
            check.due(name + ", rise(" + k + ")", shapes.rise(k), k < 0 ? -1 : rises[k]);
            check.due(name + ", fall(" + k + ")", shapes.fall(k), k < 0 ? -1 : falls[k]);
        }
        check.due(name + ", rises()", shapes.rises(), ByDefinition.leastForWhole(rises, n));
        check.due(name + ", falls()", shapes.falls(), ByDefinition.leastForWhole(falls, n));
        check.due(name + ", longestRises()", shapes.longestRises(), ByDefinition.longestRises(row));
        check.due(name + ", words()", shapes.words(), ByDefinition.words(rises));
        check.due(name + ", inversions()", shapes.inversions(), ByDefinition.inversions(row));
        check.dueRow(name + ", after the questions", shapes, row);
    }

    static void askFirst(Check check, int[] row, RskShapes shapes) {
        String name = Arrays.toString(row);
        for (int count = 0; count <= row.length; count++) {
            int[] rises = ByDefinition.risesByCount(ByDefinition.first(row, count));
            for (int k = 0; k <= count + 1; k++) {
                check.due(name + ", riseOfFirst(" + count + ", " + k + ")", shapes.riseOfFirst(count, k), rises[k]);
            }
        }
        check.dueRow(name + ", after riseOfFirst", shapes, row);
    }

    static void askUpTo(Check check, int[] row, RskShapes shapes) {
        String name = Arrays.toString(row);
        for (int value : row) {
            for (int bound = value - 1; bound <= value; bound++) {
                int[] rises = ByDefinition.risesByCount(ByDefinition.upTo(row, bound));
                for (int k = 0; k < rises.length; k++) {
                    check.due(name + ", riseUpTo(" + bound + ", " + k + ")", shapes.riseUpTo(bound, k), rises[k]);
                }
            }
        }
        check.dueRow(name + ", after riseUpTo", shapes, row);
    }
}

import java.util.ArrayList;
import java.util.List;

/**
 * Every question about a row, with the answer by definition. They are few enough that one object
 * can be asked them all, even for a row of ten numbers.
 */
final class Questions {
    private Questions() {
    }

    static List<Due> about(int[] row) {
        List<Due> dues = new ArrayList<>();
        addLooks(dues, row);
        addWhole(dues, row);
        addFirst(dues, row);
        addUpTo(dues, row);
        return dues;
    }

    private static void addLooks(List<Due> dues, int[] row) {
        dues.add(new Due(Call.length(), row.length));
        for (int place = 0; place < row.length; place++) {
            dues.add(new Due(Call.at(place), row[place]));
        }
        for (int place : new int[] {-1, row.length, Rows.MIN, Rows.MAX}) {
            dues.add(new Due(Call.at(place), -1));
        }
    }

    private static void addWhole(List<Due> dues, int[] row) {
        int[] rises = ByDefinition.risesByCount(row);
        int[] falls = ByDefinition.fallsByCount(row);
        for (int k = 0; k < rises.length; k++) {
            dues.add(new Due(Call.rise(k), rises[k]));
            dues.add(new Due(Call.fall(k), falls[k]));
        }
        for (int k : new int[] {-1, Rows.MIN}) {
            dues.add(new Due(Call.rise(k), -1));
            dues.add(new Due(Call.fall(k), -1));
        }
        dues.add(new Due(Call.rise(Rows.MAX), row.length));
        dues.add(new Due(Call.fall(Rows.MAX), row.length));
        dues.add(new Due(Call.rises(), ByDefinition.leastForWhole(rises, row.length)));
        dues.add(new Due(Call.falls(), ByDefinition.leastForWhole(falls, row.length)));
        dues.add(new Due(Call.longestRises(), ByDefinition.longestRises(row)));
        dues.add(new Due(Call.words(), ByDefinition.words(rises)));
        dues.add(new Due(Call.inversions(), ByDefinition.inversions(row)));
    }

    private static void addFirst(List<Due> dues, int[] row) {
        for (int count = 0; count <= row.length; count++) {
            int[] rises = ByDefinition.risesByCount(ByDefinition.first(row, count));
            for (int k = 0; k < rises.length; k++) {
                dues.add(new Due(Call.riseOfFirst(count, k), rises[k]));
            }
        }
        dues.add(new Due(Call.riseOfFirst(-1, 1), -1));
        dues.add(new Due(Call.riseOfFirst(row.length + 1, 1), -1));
        dues.add(new Due(Call.riseOfFirst(row.length, -1), -2));
    }

    private static void addUpTo(List<Due> dues, int[] row) {
        for (int value : row) {
            for (int bound = value - 1; bound <= value; bound++) {
                int[] rises = ByDefinition.risesByCount(ByDefinition.upTo(row, bound));
                for (int k = 0; k < rises.length; k++) {
                    dues.add(new Due(Call.riseUpTo(bound, k), rises[k]));
                }
            }
        }
        dues.add(new Due(Call.riseUpTo(Rows.MIN, 1), 0));
        dues.add(new Due(Call.riseUpTo(Rows.MAX, Rows.MAX), row.length));
        dues.add(new Due(Call.riseUpTo(Rows.MAX, -1), -1));
    }
}

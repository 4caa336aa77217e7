import java.util.ArrayList;
import java.util.List;

/**
 * The answers of the document taken from its words alone: every part of a row is tried, and no
 * theorem is used, so that a wrong use of one in the program shows.
 */
final class ByDefinition {
    private ByDefinition() {
    }

    static boolean isRising(int[] row, int part) {
        return goesOneWay(row, part, 1);
    }

    static boolean isFalling(int[] row, int part) {
        return goesOneWay(row, part, -1);
    }

    private static boolean goesOneWay(int[] row, int part, int sign) {
        int before = -1;
        for (int place = 0; place < row.length; place++) {
            if ((part >> place & 1) == 0) {
                continue;
            }
            if (before >= 0 && sign * row[place] <= sign * row[before]) {
                return false;
            }
            before = place;
        }
        return true;
    }

    /** RISE(0), RISE(1), .., RISE(n + 1) of a row of n numbers. */
    static int[] risesByCount(int[] row) {
        return greatestUnions(row, 1);
    }

    /** FALL(0), FALL(1), .., FALL(n + 1) of a row of n numbers. */
    static int[] fallsByCount(int[] row) {
        return greatestUnions(row, -1);
    }

    private static int[] greatestUnions(int[] row, int sign) {
        List<Integer> ways = new ArrayList<>();
        for (int part = 0; part < 1 << row.length; part++) {
            if (goesOneWay(row, part, sign)) {
                ways.add(part);
            }
        }
        int[] greatest = new int[row.length + 2];
        boolean[] isUnion = new boolean[1 << row.length];
        isUnion[0] = true;
        for (int k = 1; k < greatest.length; k++) {
            boolean[] next = isUnion.clone();
            for (int union = 0; union < isUnion.length; union++) {
                if (isUnion[union]) {
                    for (int part : ways) {
                        next[union | part] = true;
                    }
                }
            }
            isUnion = next;
            for (int union = 0; union < isUnion.length; union++) {
                if (isUnion[union]) {
                    greatest[k] = Math.max(greatest[k], Integer.bitCount(union));
                }
            }
        }
        return greatest;
    }

    /** More than n parts are of no more use than n, as one place alone is a part of both kinds. */
    static int forCount(int[] byCount, int k) {
        return byCount[Math.min(k, byCount.length - 1)];
    }

    static int leastForWhole(int[] byCount, int n) {
        int k = 0;
        while (byCount[k] < n) {
            k++;
        }
        return k;
    }

    static int[] first(int[] row, int count) {
        return java.util.Arrays.copyOf(row, count);
    }

    static int[] upTo(int[] row, int bound) {
        return java.util.Arrays.stream(row).filter(x -> x <= bound).toArray();
    }

    static int longestRises(int[] row) {
        int longest = 0;
        int many = 0;
        for (int part = 0; part < 1 << row.length; part++) {
            if (!isRising(row, part)) {
                continue;
            }
            int places = Integer.bitCount(part);
            if (places > longest) {
                longest = places;
                many = 0;
            }
            if (places == longest) {
                many++;
            }
        }
        return many;
    }

    static int words(int[] risesByCount) {
        int n = risesByCount.length - 2;
        int[] left = new int[n + 2];
        for (int k = 1; k <= n; k++) {
            left[k] = risesByCount[k] - risesByCount[k - 1];
        }
        return wordsFrom(left, new int[n + 2], n);
    }

    private static int wordsFrom(int[] left, int[] used, int toCome) {
        if (toCome == 0) {
            return 1;
        }
        int many = 0;
        for (int k = 1; k < left.length; k++) {
            boolean keepsOrder = k == 1 || used[k - 1] >= used[k] + 1;
            if (left[k] > 0 && keepsOrder) {
                left[k]--;
                used[k]++;
                many += wordsFrom(left, used, toCome - 1);
                left[k]++;
                used[k]--;
            }
        }
        return many;
    }

    static int inversions(int[] row) {
        int pairs = 0;
        for (int part = 0; part < 1 << row.length; part++) {
            if (Integer.bitCount(part) == 2 && isFalling(row, part)) {
                pairs++;
            }
        }
        return pairs;
    }
}

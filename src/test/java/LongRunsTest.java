import java.util.ArrayList;
import java.util.Collections;
import java.util.List;

/**
 * Long mixed runs, right and wrong arguments in turn, beside a plain list that does the same. The
 * calls come from a fixed sequence of numbers, so every run of this test is the same.
 */
public final class LongRunsTest {
    private static final int RUNS = 60;
    private static final int[] FAR = {Integer.MIN_VALUE, -2, -1, 100, 101, Integer.MAX_VALUE};
    private static final Check CHECK = new Check();

    private static long state = 20261115L;

    private final RskShapes shapes = new RskShapes();
    private final List<Integer> row = new ArrayList<>();
    private String name = "";

    public static void main(String[] args) {
        for (int run = 0; run < RUNS; run++) {
            new LongRunsTest().run(run);
        }
        CHECK.end("LongRunsTest");
    }

    private static int next(int bound) {
        state = state * 6364136223846793005L + 1442695040888963407L;
        return (int) ((state >>> 33) % bound);
    }

    private void run(int run) {
        for (int call = 1; call <= Run.CALLS; call++) {
            name = "run " + run + ", call " + call + ", " + row + ", ";
            // Pushes come often enough to fill the row now and then.
            switch (next(20)) {
                case 0, 1, 2, 3, 4, 5 -> push();
                case 6, 7 -> pop();
                case 8 -> exchange();
                case 9 -> reverse();
                case 10 -> mirror();
                case 11 -> move();
                case 12, 13 -> look();
                default -> ask();
            }
        }
    }

    private void due(String call, long got, long want) {
        CHECK.due(name + call, got, want);
    }

    private int[] numbers() {
        return row.stream().mapToInt(Integer::intValue).toArray();
    }

    private int somePlace() {
        return next(8) == 0 ? FAR[next(FAR.length)] : next(row.size() + 1);
    }

    private int someCount() {
        return next(10) == 0 ? FAR[next(FAR.length)] : next(6);
    }

    private boolean isGood(int place) {
        return place >= 0 && place < row.size();
    }

    private void push() {
        int value = next(10) == 0 ? FAR[next(FAR.length)] : next(100);
        if (next(6) == 0 && !row.isEmpty()) {
            value = row.get(next(row.size()));
        }
        int want;
        if (value < 0 || value > 99) {
            want = -1;
        } else if (row.contains(value)) {
            want = -2;
        } else if (row.size() == 10) {
            want = -3;
        } else {
            row.add(value);
            want = row.size();
        }
        due("push(" + value + ")", shapes.push(value), want);
    }

    private void pop() {
        int want = row.isEmpty() ? -1 : row.remove(row.size() - 1);
        due("pop()", shapes.pop(), want);
    }

    private void exchange() {
        int i = somePlace();
        int j = somePlace();
        boolean good = isGood(i) && isGood(j);
        if (good) {
            Collections.swap(row, i, j);
        }
        due("exchange(" + i + ", " + j + ")", shapes.exchange(i, j), good ? 0 : -1);
    }

    private void reverse() {
        Collections.reverse(row);
        due("reverse()", shapes.reverse(), row.size());
    }

    private void mirror() {
        row.replaceAll(x -> 99 - x);
        due("mirror()", shapes.mirror(), row.size());
    }

    private void move() {
        int from = somePlace();
        int to = somePlace();
        boolean good = isGood(from) && isGood(to);
        if (good) {
            Integer value = row.remove(from);
            row.add(to, value);
        }
        due("move(" + from + ", " + to + ")", shapes.move(from, to), good ? 0 : -1);
    }

    private void look() {
        int place = somePlace();
        if (next(3) == 0) {
            due("length()", shapes.length(), row.size());
        } else {
            due("at(" + place + ")", shapes.at(place), isGood(place) ? row.get(place) : -1);
        }
    }

    private void ask() {
        int[] whole = numbers();
        int k = someCount();
        switch (next(9)) {
            case 0 -> due("rise(" + k + ")", shapes.rise(k), riseDue(whole, k, -1));
            case 1 -> due("fall(" + k + ")", shapes.fall(k),
                k < 0 ? -1 : ByDefinition.forCount(ByDefinition.fallsByCount(whole), k));
            case 2 -> askFirst(whole, k);
            case 3 -> askUpTo(whole, k);
            case 4 -> due("rises()", shapes.rises(),
                ByDefinition.leastForWhole(ByDefinition.risesByCount(whole), whole.length));
            case 5 -> due("falls()", shapes.falls(),
                ByDefinition.leastForWhole(ByDefinition.fallsByCount(whole), whole.length));
            case 6 -> due("longestRises()", shapes.longestRises(), ByDefinition.longestRises(whole));
            case 7 -> due("words()", shapes.words(), ByDefinition.words(ByDefinition.risesByCount(whole)));
            default -> due("inversions()", shapes.inversions(), ByDefinition.inversions(whole));
        }
    }

    private static int riseDue(int[] part, int k, int refusal) {
        return k < 0 ? refusal : ByDefinition.forCount(ByDefinition.risesByCount(part), k);
    }

    private void askFirst(int[] whole, int k) {
        int count = next(8) == 0 ? FAR[next(FAR.length)] : next(whole.length + 2);
        int want = -1;
        if (count >= 0 && count <= whole.length) {
            want = riseDue(ByDefinition.first(whole, count), k, -2);
        }
        due("riseOfFirst(" + count + ", " + k + ")", shapes.riseOfFirst(count, k), want);
    }

    private void askUpTo(int[] whole, int k) {
        int bound = next(8) == 0 ? FAR[next(FAR.length)] : next(100);
        if (next(2) == 0 && whole.length > 0) {
            bound = whole[next(whole.length)];
        }
        due("riseUpTo(" + bound + ", " + k + ")", shapes.riseUpTo(bound, k),
            riseDue(ByDefinition.upTo(whole, bound), k, -1));
    }
}

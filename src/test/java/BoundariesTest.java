import java.util.ArrayList;
import java.util.List;

/**
 * The boundary cases that promises 1 to 18 name and that are not refused: the empty row, one number,
 * ten numbers, the first and last place, the first and last number. RefusalsTest has the refusals.
 */
public final class BoundariesTest {
    private static final int MIN = Rows.MIN;
    private static final int MAX = Rows.MAX;
    private static final Check CHECK = new Check();

    public static void main(String[] args) {
        CHECK.sentence("1: The row is empty at first.", BoundariesTest::newObject);
        CHECK.sentence("2: Puts a number at the end of the row", BoundariesTest::pushAtTheEnd);
        CHECK.sentence("2: otherwise answers the new length", BoundariesTest::pushAnswersLength);
        CHECK.sentence("3: Takes the last number away", BoundariesTest::popTakesTheLast);
        CHECK.sentence("3: otherwise answers it", BoundariesTest::popAnswersNumber);
        CHECK.sentence("4: Exchanges the numbers at two places", BoundariesTest::exchangeAtTheEdges);
        CHECK.sentence("4: at two places that are one", BoundariesTest::exchangeWithItself);
        CHECK.sentence("5: Turns the order of the row round", BoundariesTest::reverseOfEachLength);
        CHECK.sentence("6: Every number x becomes 99 - x", BoundariesTest::mirrorAtTheEdges);
        CHECK.sentence("6: answers the length", BoundariesTest::mirrorOfEachLength);
        CHECK.sentence("7: so that it stands at another place of the row", BoundariesTest::moveToEachPlace);
        CHECK.sentence("7: at another place that is its own", BoundariesTest::moveToItsOwnPlace);
        CHECK.sentence("8: How many numbers there are", BoundariesTest::lengthFromNoneToTen);
        CHECK.sentence("9: The number at a place", BoundariesTest::atFirstAndLast);
        CHECK.sentence("10: RISE(k)", BoundariesTest::riseAtTheEdges);
        CHECK.sentence("11: FALL(k)", BoundariesTest::fallAtTheEdges);
        CHECK.sentence("12: its first count places", BoundariesTest::noneAndAllOfTheFirst);
        CHECK.sentence("13: the numbers that are at most bound", BoundariesTest::justTheBound);
        CHECK.sentence("13: bound (any int)", BoundariesTest::anyBound);
        CHECK.sentence("14: (0 for the empty row)", BoundariesTest::risesOfEmptyRow);
        CHECK.sentence("14: The least k", BoundariesTest::risesAtTheEdges);
        CHECK.sentence("15: (0 for the empty row)", BoundariesTest::fallsOfEmptyRow);
        CHECK.sentence("15: The least k", BoundariesTest::fallsAtTheEdges);
        CHECK.sentence("16: (1 for the empty row)", BoundariesTest::longestRisesOfEmptyRow);
        CHECK.sentence("16: How many different rising parts", BoundariesTest::longestRisesAtTheEdges);
        CHECK.sentence("17: (1 for the empty row.)", BoundariesTest::wordsOfEmptyRow);
        CHECK.sentence("17: How many lists", BoundariesTest::wordsAtTheEdges);
        CHECK.sentence("18: How many pairs of places", BoundariesTest::inversionsAtTheEdges);
        CHECK.end("BoundariesTest");
    }

    private static Run of(int... row) {
        return new Run(CHECK, row);
    }

    /** A row that was full, and is empty again. */
    private static Run emptied() {
        return of(Rows.mixed()).duePops(Rows.mixed());
    }

    private static void newObject() {
        of().dueRow();
        of().due(Call.length(), 0);
        of().due(Call.at(0), -1);
        of().due(Call.pop(), -1);
        // Whatever call is the first one, it finds no number.
        for (Due due : Questions.about(new int[0])) {
            of().due(due.call(), due.want());
        }
    }

    private static void pushAtTheEnd() {
        of().due(Call.push(50), 1).dueRow(50);
        of(Rows.firstOfMixed(9)).due(Call.push(49), 10).dueRow(Rows.mixed());
        // The end is behind the last number, not where an earlier one was taken away.
        of(1, 2, 3).due(Call.pop(), 3).due(Call.pop(), 2).due(Call.push(9), 2).dueRow(1, 9);
        of(1, 2, 3).due(Call.reverse(), 3).due(Call.push(0), 4).dueRow(3, 2, 1, 0);
        emptied().due(Call.push(50), 1).dueRow(50);
    }

    private static void pushAnswersLength() {
        Run run = of();
        for (int length = 1; length <= 10; length++) {
            run.due(Call.push(length), length).due(Call.length(), length);
        }
        of(5).due(Call.pop(), 5).due(Call.push(6), 1);
    }

    private static void popTakesTheLast() {
        of(7).due(Call.pop(), 7).dueRow();
        of(Rows.mixed()).due(Call.pop(), 49).dueRow(Rows.firstOfMixed(9));
        of(Rows.mixed()).duePops(Rows.mixed()).dueRow();
        of(1, 2, 3).due(Call.reverse(), 3).due(Call.pop(), 1).dueRow(3, 2);
        of(1, 2, 3).due(Call.move(2, 0), 0).due(Call.pop(), 2).dueRow(3, 1);
        of(1, 2, 3).due(Call.exchange(0, 2), 0).due(Call.pop(), 1).dueRow(3, 2);
    }

    private static void popAnswersNumber() {
        of(0).due(Call.pop(), 0);
        of(99).due(Call.pop(), 99);
        of(0).due(Call.mirror(), 1).due(Call.pop(), 99);
        of(99).due(Call.mirror(), 1).due(Call.pop(), 0);
    }

    private static void exchangeAtTheEdges() {
        of(1, 2).due(Call.exchange(0, 1), 0).dueRow(2, 1);
        of(1, 2).due(Call.exchange(1, 0), 0).dueRow(2, 1);
        of(Rows.rising()).due(Call.exchange(0, 9), 0).dueRow(9, 1, 2, 3, 4, 5, 6, 7, 8, 0);
        of(Rows.rising()).due(Call.exchange(9, 0), 0).dueRow(9, 1, 2, 3, 4, 5, 6, 7, 8, 0);
        of(Rows.rising()).due(Call.exchange(9, 8), 0).dueRow(0, 1, 2, 3, 4, 5, 6, 7, 9, 8);
    }

    private static void exchangeWithItself() {
        for (int length = 1; length <= 10; length++) {
            int[] row = Rows.firstOfMixed(length);
            for (int place = 0; place < length; place++) {
                of(row).due(Call.exchange(place, place), 0).dueRow(row);
            }
        }
    }

    private static void reverseOfEachLength() {
        of().due(Call.reverse(), 0).dueRow();
        of(4).due(Call.reverse(), 1).dueRow(4);
        of(4, 9).due(Call.reverse(), 2).dueRow(9, 4);
        of(4, 9, 2).due(Call.reverse(), 3).dueRow(2, 9, 4);
        for (int length = 0; length <= 10; length++) {
            int[] row = Rows.firstOfMixed(length);
            int[] turned = new int[length];
            for (int place = 0; place < length; place++) {
                turned[place] = row[length - 1 - place];
            }
            of(row).due(Call.reverse(), length).dueRow(turned).due(Call.reverse(), length).dueRow(row);
        }
        emptied().due(Call.reverse(), 0).dueRow();
    }

    private static void mirrorAtTheEdges() {
        of(0).due(Call.mirror(), 1).dueRow(99);
        of(99).due(Call.mirror(), 1).dueRow(0);
        of(1).due(Call.mirror(), 1).dueRow(98);
        // No number becomes itself; the two in the middle become each other.
        of(49, 50).due(Call.mirror(), 2).dueRow(50, 49);
        of(0, 99).due(Call.mirror(), 2).dueRow(99, 0).due(Call.mirror(), 2).dueRow(0, 99);
        for (int value = 0; value <= 99; value++) {
            of(value).due(Call.mirror(), 1).dueRow(99 - value);
        }
    }

    private static void mirrorOfEachLength() {
        of().due(Call.mirror(), 0).dueRow();
        for (int length = 0; length <= 10; length++) {
            int[] row = Rows.firstOfMixed(length);
            int[] mirrored = new int[length];
            for (int place = 0; place < length; place++) {
                mirrored[place] = 99 - row[place];
            }
            of(row).due(Call.mirror(), length).dueRow(mirrored).due(Call.mirror(), length).dueRow(row);
        }
        emptied().due(Call.mirror(), 0).dueRow().due(Call.push(0), 1).dueRow(0);
    }

    private static void moveToEachPlace() {
        of(1, 2).due(Call.move(0, 1), 0).dueRow(2, 1);
        of(1, 2).due(Call.move(1, 0), 0).dueRow(2, 1);
        of(Rows.rising()).due(Call.move(0, 9), 0).dueRow(1, 2, 3, 4, 5, 6, 7, 8, 9, 0);
        of(Rows.rising()).due(Call.move(9, 0), 0).dueRow(9, 0, 1, 2, 3, 4, 5, 6, 7, 8);
        of(Rows.rising()).due(Call.move(2, 6), 0).dueRow(0, 1, 3, 4, 5, 6, 2, 7, 8, 9);
        of(Rows.rising()).due(Call.move(6, 2), 0).dueRow(0, 1, 6, 2, 3, 4, 5, 7, 8, 9);
        for (int length = 1; length <= 10; length++) {
            int[] row = Rows.firstOfMixed(length);
            for (int from = 0; from < length; from++) {
                for (int to = 0; to < length; to++) {
                    of(row).due(Call.move(from, to), 0).dueRow(moved(row, from, to))
                        .due(Call.move(to, from), 0).dueRow(row);
                }
            }
        }
    }

    private static int[] moved(int[] row, int from, int to) {
        List<Integer> list = new ArrayList<>();
        for (int value : row) {
            list.add(value);
        }
        Integer value = list.remove(from);
        list.add(to, value);
        return list.stream().mapToInt(Integer::intValue).toArray();
    }

    private static void moveToItsOwnPlace() {
        for (int length = 1; length <= 10; length++) {
            int[] row = Rows.firstOfMixed(length);
            for (int place = 0; place < length; place++) {
                of(row).due(Call.move(place, place), 0).dueRow(row);
            }
        }
    }

    private static void lengthFromNoneToTen() {
        for (int length = 0; length <= 10; length++) {
            of(Rows.firstOfMixed(length)).due(Call.length(), length);
        }
        emptied().due(Call.length(), 0);
        of(Rows.mixed()).due(Call.push(3), -3).due(Call.length(), 10);
        of().due(Call.pop(), -1).due(Call.length(), 0);
    }

    private static void atFirstAndLast() {
        for (int length = 1; length <= 10; length++) {
            int[] row = Rows.firstOfMixed(length);
            of(row).due(Call.at(0), row[0]).due(Call.at(length - 1), row[length - 1]);
        }
        of(0).due(Call.at(0), 0);
        of(99).due(Call.at(0), 99);
        emptied().due(Call.at(0), -1);
    }

    private static void riseAtTheEdges() {
        of().due(Call.rise(0), 0).due(Call.rise(1), 0).due(Call.rise(MAX), 0);
        emptied().due(Call.rise(1), 0).due(Call.rise(MAX), 0);
        of(5).due(Call.rise(0), 0).due(Call.rise(1), 1).due(Call.rise(2), 1);
        Run rising = of(Rows.rising());
        Run falling = of(Rows.falling());
        for (int k = 1; k <= 10; k++) {
            rising.due(Call.rise(k), 10);
            falling.due(Call.rise(k), k);
        }
        falling.due(Call.rise(11), 10).due(Call.rise(MAX), 10).due(Call.rise(0), 0);
    }

    private static void fallAtTheEdges() {
        of().due(Call.fall(0), 0).due(Call.fall(1), 0).due(Call.fall(MAX), 0);
        emptied().due(Call.fall(1), 0).due(Call.fall(MAX), 0);
        of(5).due(Call.fall(0), 0).due(Call.fall(1), 1).due(Call.fall(2), 1);
        Run rising = of(Rows.rising());
        Run falling = of(Rows.falling());
        for (int k = 1; k <= 10; k++) {
            falling.due(Call.fall(k), 10);
            rising.due(Call.fall(k), k);
        }
        rising.due(Call.fall(11), 10).due(Call.fall(MAX), 10).due(Call.fall(0), 0);
    }

    private static void noneAndAllOfTheFirst() {
        of().due(Call.riseOfFirst(0, 0), 0).due(Call.riseOfFirst(0, 1), 0).due(Call.riseOfFirst(0, MAX), 0);
        Run rising = of(Rows.rising());
        Run falling = of(Rows.falling());
        for (int count = 0; count <= 10; count++) {
            rising.due(Call.riseOfFirst(count, 1), count);
            falling.due(Call.riseOfFirst(count, 1), count == 0 ? 0 : 1).due(Call.riseOfFirst(count, 10), count);
        }
        // The number just behind the first count places is not looked at, and the last of them is.
        of(1, 2, 3).due(Call.riseOfFirst(2, 1), 2).due(Call.riseOfFirst(3, 1), 3);
        of(3, 1, 2).due(Call.riseOfFirst(2, 1), 1).due(Call.riseOfFirst(3, 1), 2);
    }

    private static void justTheBound() {
        of(50).due(Call.riseUpTo(49, 1), 0).due(Call.riseUpTo(50, 1), 1).due(Call.riseUpTo(51, 1), 1);
        of(0).due(Call.riseUpTo(-1, 1), 0).due(Call.riseUpTo(0, 1), 1);
        of(99).due(Call.riseUpTo(98, 1), 0).due(Call.riseUpTo(99, 1), 1).due(Call.riseUpTo(100, 1), 1);
        // Numbers above the bound are left out wherever they stand.
        of(60, 10, 70, 20, 80).due(Call.riseUpTo(20, 1), 2).due(Call.riseUpTo(19, 1), 1)
            .due(Call.riseUpTo(60, 1), 2).due(Call.riseUpTo(60, 2), 3).due(Call.riseUpTo(80, 1), 3);
        Run rising = of(Rows.rising());
        for (int bound = -1; bound <= 10; bound++) {
            rising.due(Call.riseUpTo(bound, 1), Math.min(bound + 1, 10));
        }
    }

    private static void anyBound() {
        for (int length = 0; length <= 10; length++) {
            Run run = of(Rows.firstOfMixed(length));
            for (int bound : new int[] {MIN, MIN + 1, -65536, -100, -1}) {
                run.due(Call.riseUpTo(bound, 0), 0).due(Call.riseUpTo(bound, 1), 0)
                    .due(Call.riseUpTo(bound, MAX), 0);
            }
            for (int bound : new int[] {99, 100, 128, 256, 65536, MAX - 1, MAX}) {
                run.due(Call.riseUpTo(bound, 0), 0).due(Call.riseUpTo(bound, MAX), length);
            }
        }
    }

    private static void risesOfEmptyRow() {
        of().due(Call.rises(), 0);
        emptied().due(Call.rises(), 0);
    }

    private static void risesAtTheEdges() {
        for (int length = 1; length <= 10; length++) {
            of(ByDefinition.first(Rows.rising(), length)).due(Call.rises(), 1);
            of(ByDefinition.first(Rows.falling(), length)).due(Call.rises(), length);
        }
    }

    private static void fallsOfEmptyRow() {
        of().due(Call.falls(), 0);
        emptied().due(Call.falls(), 0);
    }

    private static void fallsAtTheEdges() {
        for (int length = 1; length <= 10; length++) {
            of(ByDefinition.first(Rows.falling(), length)).due(Call.falls(), 1);
            of(ByDefinition.first(Rows.rising(), length)).due(Call.falls(), length);
        }
    }

    private static void longestRisesOfEmptyRow() {
        of().due(Call.longestRises(), 1);
        emptied().due(Call.longestRises(), 1);
        // The row was asked while it had numbers, and must not answer from then.
        of(2, 1).due(Call.longestRises(), 2).duePops(2, 1).due(Call.longestRises(), 1);
    }

    private static void longestRisesAtTheEdges() {
        for (int length = 1; length <= 10; length++) {
            of(ByDefinition.first(Rows.rising(), length)).due(Call.longestRises(), 1);
            of(ByDefinition.first(Rows.falling(), length)).due(Call.longestRises(), length);
        }
        // No row of ten has more: three times, three times and four times the choice.
        of(3, 2, 1, 6, 5, 4, 10, 9, 8, 7).due(Call.longestRises(), 36);
        of(98, 97, 99).due(Call.longestRises(), 2);
        of(0, 2, 1).due(Call.longestRises(), 2);
    }

    private static void wordsOfEmptyRow() {
        of().due(Call.words(), 1);
        emptied().due(Call.words(), 1);
    }

    private static void wordsAtTheEdges() {
        for (int length = 1; length <= 10; length++) {
            // 1 1 1 .. alone, and 1 2 3 .. alone.
            of(ByDefinition.first(Rows.rising(), length)).due(Call.words(), 1);
            of(ByDefinition.first(Rows.falling(), length)).due(Call.words(), 1);
        }
        of(1, 0).due(Call.words(), 1);
        of(1, 0, 2).due(Call.words(), 2);
        // No row of ten has more: four, three, two and one of the numbers 1 to 4.
        of(9, 7, 8, 4, 5, 6, 0, 1, 2, 3).due(Call.words(), 768);
    }

    private static void inversionsAtTheEdges() {
        of().due(Call.inversions(), 0);
        emptied().due(Call.inversions(), 0);
        of(99).due(Call.inversions(), 0);
        of(0, 1).due(Call.inversions(), 0);
        of(1, 0).due(Call.inversions(), 1);
        of(0, 99).due(Call.inversions(), 0);
        of(99, 0).due(Call.inversions(), 1);
        for (int length = 1; length <= 10; length++) {
            of(ByDefinition.first(Rows.rising(), length)).due(Call.inversions(), 0);
            of(ByDefinition.first(Rows.falling(), length)).due(Call.inversions(), length * (length - 1) / 2);
        }
        // The first and the last place are a pair too.
        of(9, 1, 2, 3, 4, 5, 6, 7, 8, 0).due(Call.inversions(), 17);
    }
}

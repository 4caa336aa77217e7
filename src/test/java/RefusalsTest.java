/**
 * Each sentence of the document that refuses a call: the first and the last that is refused, beside
 * the first and the last that is not; and which refusal comes first where two are possible.
 */
public final class RefusalsTest {
    private static final int MIN = Rows.MIN;
    private static final int MAX = Rows.MAX;
    private static final Check CHECK = new Check();

    public static void main(String[] args) {
        CHECK.sentence("push: -1 if value is not in 0 .. 99", RefusalsTest::pushOfNoNumber);
        CHECK.sentence("push: -2 if it is in the row", RefusalsTest::pushOfOneInTheRow);
        CHECK.sentence("push: -3 if the row has 10 numbers", RefusalsTest::pushOnTenNumbers);
        CHECK.sentence("push: -1 is tested before -3", RefusalsTest::pushOfNoNumberOnTen);
        CHECK.sentence("push: -2 is tested before -3", RefusalsTest::pushOfOneInTheRowOnTen);
        CHECK.sentence("pop: -1 if the row is empty", RefusalsTest::popOnEmptyRow);
        CHECK.sentence("exchange: -1 if i is not good", RefusalsTest::exchangeOfBadI);
        CHECK.sentence("exchange: -1 if j is not good", RefusalsTest::exchangeOfBadJ);
        CHECK.sentence("exchange: -1 if both are not good", RefusalsTest::exchangeOfTwoBad);
        CHECK.sentence("move: -1 if from is not good", RefusalsTest::moveFromBad);
        CHECK.sentence("move: -1 if to is not good", RefusalsTest::moveToBad);
        CHECK.sentence("move: -1 if both are not good", RefusalsTest::moveOfTwoBad);
        CHECK.sentence("at: -1 if place is not good", RefusalsTest::atBadPlace);
        CHECK.sentence("a place is good if it is 0 .. length()-1", RefusalsTest::placesBecomeBadAndGood);
        CHECK.sentence("rise: -1 if k < 0", RefusalsTest::riseOfBadCount);
        CHECK.sentence("fall: -1 if k < 0", RefusalsTest::fallOfBadCount);
        CHECK.sentence("riseOfFirst: -1 if count is not in 0 .. length()", RefusalsTest::riseOfTooManyOrFew);
        CHECK.sentence("riseOfFirst: -2 if k < 0", RefusalsTest::riseOfFirstOfBadCount);
        CHECK.sentence("riseOfFirst: -1 is tested before -2", RefusalsTest::riseOfFirstOfTwoBad);
        CHECK.sentence("riseUpTo: -1 if k < 0", RefusalsTest::riseUpToOfBadCount);
        CHECK.end("RefusalsTest");
    }

    private static Run of(int... row) {
        return new Run(CHECK, row);
    }

    private static int[] noNumbers() {
        // Some of them would be good numbers if they were cut to fewer bits.
        return new int[] {-1, 100, 101, -99, -100, 128, 256, 65536, -256, -65536, MIN, MIN + 50, MAX};
    }

    private static void pushOfNoNumber() {
        for (int length = 0; length < 10; length++) {
            int[] row = Rows.firstOfMixed(length);
            for (int value : noNumbers()) {
                of(row).due(Call.push(value), -1).dueRow(row);
            }
        }
        of().due(Call.push(0), 1).dueRow(0);
        of().due(Call.push(99), 1).dueRow(99);
        of(5).due(Call.push(0), 2).dueRow(5, 0);
        of(5).due(Call.push(99), 2).dueRow(5, 99);
    }

    private static void pushOfOneInTheRow() {
        for (int length = 1; length < 10; length++) {
            int[] row = Rows.firstOfMixed(length);
            for (int value : row) {
                of(row).due(Call.push(value), -2).dueRow(row);
            }
        }
        // Beside a number in the row there are others that are not.
        of(50).due(Call.push(49), 2).due(Call.push(51), 3).dueRow(50, 49, 51);
        of(0).due(Call.push(99), 2);
        // What was taken away is in the row no more.
        of(7, 8).due(Call.pop(), 8).due(Call.push(8), 2).due(Call.push(8), -2);
        of(7).due(Call.pop(), 7).due(Call.push(7), 1);
        // After mirror it is the new number that is in the row.
        of(10, 20).due(Call.mirror(), 2).due(Call.push(89), -2).due(Call.push(79), -2)
            .due(Call.push(10), 3).due(Call.push(20), 4);
        // A number that has changed its place is still in the row.
        of(1, 2, 3).due(Call.move(0, 2), 0).due(Call.push(1), -2).due(Call.push(3), -2);
        of(1, 2, 3).due(Call.exchange(0, 2), 0).due(Call.push(1), -2).due(Call.push(3), -2);
        of(1, 2, 3).due(Call.reverse(), 3).due(Call.push(1), -2).due(Call.push(3), -2);
    }

    private static void pushOnTenNumbers() {
        int[] nine = Rows.firstOfMixed(9);
        of(nine).due(Call.push(49), 10).due(Call.push(3), -3).dueRow(Rows.mixed());
        for (int value : new int[] {3, 5, 48, 51, 97}) {
            of(Rows.mixed()).due(Call.push(value), -3).dueRow(Rows.mixed());
        }
        of(Rows.mixed()).due(Call.push(3), -3).due(Call.pop(), 49).due(Call.push(3), 10)
            .due(Call.push(49), -3);
    }

    private static void pushOfNoNumberOnTen() {
        for (int value : noNumbers()) {
            of(Rows.mixed()).due(Call.push(value), -1).dueRow(Rows.mixed());
        }
    }

    private static void pushOfOneInTheRowOnTen() {
        for (int value : Rows.mixed()) {
            of(Rows.mixed()).due(Call.push(value), -2).dueRow(Rows.mixed());
        }
    }

    private static void popOnEmptyRow() {
        of().due(Call.pop(), -1).due(Call.pop(), -1).dueRow();
        of().due(Call.pop(), -1).due(Call.push(6), 1).dueRow(6);
        of(6).due(Call.pop(), 6).due(Call.pop(), -1).dueRow();
        of(Rows.mixed()).duePops(Rows.mixed()).due(Call.pop(), -1).dueRow();
    }

    private static void exchangeOfBadI() {
        for (int length = 1; length <= 10; length++) {
            int[] row = Rows.firstOfMixed(length);
            for (int bad : Rows.badPlaces(length)) {
                of(row).due(Call.exchange(bad, 0), -1).due(Call.exchange(bad, length - 1), -1).dueRow(row);
            }
            of(row).due(Call.exchange(0, 0), 0).due(Call.exchange(length - 1, 0), 0);
        }
    }

    private static void exchangeOfBadJ() {
        for (int length = 1; length <= 10; length++) {
            int[] row = Rows.firstOfMixed(length);
            for (int bad : Rows.badPlaces(length)) {
                of(row).due(Call.exchange(0, bad), -1).due(Call.exchange(length - 1, bad), -1).dueRow(row);
            }
            of(row).due(Call.exchange(0, 0), 0).due(Call.exchange(0, length - 1), 0);
        }
    }

    private static void exchangeOfTwoBad() {
        for (int length = 0; length <= 10; length++) {
            int[] row = Rows.firstOfMixed(length);
            for (int bad : Rows.badPlaces(length)) {
                // The same bad place twice is no good exchange of a number with itself.
                of(row).due(Call.exchange(bad, bad), -1).due(Call.exchange(bad, -1), -1)
                    .due(Call.exchange(length, bad), -1).dueRow(row);
            }
        }
        of().due(Call.exchange(0, 0), -1).dueRow();
    }

    private static void moveFromBad() {
        for (int length = 1; length <= 10; length++) {
            int[] row = Rows.firstOfMixed(length);
            for (int bad : Rows.badPlaces(length)) {
                of(row).due(Call.move(bad, 0), -1).due(Call.move(bad, length - 1), -1).dueRow(row);
            }
            of(row).due(Call.move(0, 0), 0).due(Call.move(length - 1, 0), 0);
        }
    }

    private static void moveToBad() {
        for (int length = 1; length <= 10; length++) {
            int[] row = Rows.firstOfMixed(length);
            for (int bad : Rows.badPlaces(length)) {
                of(row).due(Call.move(0, bad), -1).due(Call.move(length - 1, bad), -1).dueRow(row);
            }
            of(row).due(Call.move(0, 0), 0).due(Call.move(0, length - 1), 0);
        }
    }

    private static void moveOfTwoBad() {
        for (int length = 0; length <= 10; length++) {
            int[] row = Rows.firstOfMixed(length);
            for (int bad : Rows.badPlaces(length)) {
                of(row).due(Call.move(bad, bad), -1).due(Call.move(bad, -1), -1)
                    .due(Call.move(length, bad), -1).dueRow(row);
            }
        }
        of().due(Call.move(0, 0), -1).dueRow();
    }

    private static void atBadPlace() {
        for (int length = 0; length <= 10; length++) {
            int[] row = Rows.firstOfMixed(length);
            Run run = of(row);
            for (int bad : Rows.badPlaces(length)) {
                run.due(Call.at(bad), -1);
            }
            run.dueRow(row);
        }
    }

    private static void placesBecomeBadAndGood() {
        // The number may still stand in its cell when the place is good no more.
        of(7, 8, 9).due(Call.pop(), 9)
            .due(Call.at(2), -1).due(Call.exchange(2, 0), -1).due(Call.exchange(0, 2), -1)
            .due(Call.move(2, 0), -1).due(Call.move(0, 2), -1).due(Call.riseOfFirst(3, 1), -1)
            .dueRow(7, 8)
            .due(Call.push(5), 3)
            .due(Call.at(2), 5).due(Call.exchange(2, 0), 0).due(Call.move(2, 0), 0)
            .due(Call.riseOfFirst(3, 1), 2)
            .dueRow(7, 5, 8);
    }

    private static void riseOfBadCount() {
        for (int length = 0; length <= 10; length++) {
            Run run = of(Rows.firstOfMixed(length));
            for (int k : Rows.badCounts()) {
                run.due(Call.rise(k), -1);
            }
            run.due(Call.rise(0), 0);
        }
    }

    private static void fallOfBadCount() {
        for (int length = 0; length <= 10; length++) {
            Run run = of(Rows.firstOfMixed(length));
            for (int k : Rows.badCounts()) {
                run.due(Call.fall(k), -1);
            }
            run.due(Call.fall(0), 0);
        }
    }

    private static void riseOfTooManyOrFew() {
        for (int length = 0; length <= 10; length++) {
            Run run = of(Rows.firstOfMixed(length));
            for (int count : new int[] {-1, length + 1, 11, -10, 256, -256, 65536, MIN, MAX}) {
                run.due(Call.riseOfFirst(count, 0), -1).due(Call.riseOfFirst(count, 1), -1)
                    .due(Call.riseOfFirst(count, MAX), -1);
            }
            run.due(Call.riseOfFirst(0, MAX), 0).due(Call.riseOfFirst(length, MAX), length);
        }
    }

    private static void riseOfFirstOfBadCount() {
        for (int length = 0; length <= 10; length++) {
            Run run = of(Rows.firstOfMixed(length));
            for (int k : Rows.badCounts()) {
                // No place at all is a good count, so that k is looked at.
                run.due(Call.riseOfFirst(0, k), -2).due(Call.riseOfFirst(length, k), -2)
                    .due(Call.riseOfFirst(length / 2, k), -2);
            }
            run.due(Call.riseOfFirst(length, 0), 0);
        }
    }

    private static void riseOfFirstOfTwoBad() {
        for (int length = 0; length <= 10; length++) {
            Run run = of(Rows.firstOfMixed(length));
            for (int k : Rows.badCounts()) {
                run.due(Call.riseOfFirst(-1, k), -1).due(Call.riseOfFirst(length + 1, k), -1)
                    .due(Call.riseOfFirst(MIN, k), -1).due(Call.riseOfFirst(MAX, k), -1);
            }
        }
    }

    private static void riseUpToOfBadCount() {
        for (int length = 0; length <= 10; length++) {
            Run run = of(Rows.firstOfMixed(length));
            for (int k : Rows.badCounts()) {
                for (int bound : new int[] {MIN, -1, 0, 50, 99, 100, MAX}) {
                    run.due(Call.riseUpTo(bound, k), -1);
                }
            }
            run.due(Call.riseUpTo(99, 0), 0);
        }
    }
}

import java.util.List;

/** The boundary cases of the sections "What it is" and "Terms". RefusalsTest has the refusals. */
public final class TermsTest {
    private static final int MIN = Rows.MIN;
    private static final int MAX = Rows.MAX;
    private static final Check CHECK = new Check();

    public static void main(String[] args) {
        CHECK.sentence("An object is used for at most 512 calls", TermsTest::lastCall);
        CHECK.sentence("THE ROW is a list of at most 10 numbers", TermsTest::tenNumbers);
        CHECK.sentence("THE ROW is a list of different numbers", TermsTest::differentNumbers);
        CHECK.sentence("each 0 .. 99", TermsTest::firstAndLastNumber);
        CHECK.sentence("it is empty at first", TermsTest::emptyAtFirst);
        CHECK.sentence("the empty part counts too", TermsTest::emptyPart);
        CHECK.sentence("RISING if every value in it is greater than the one before it", TermsTest::onePlace);
        CHECK.sentence("a union of at most k parts", TermsTest::moreThanNeeded);
        CHECK.sentence("the empty part is a 0-rise", TermsTest::zeroRise);
        CHECK.end("TermsTest");
    }

    private static Run of(int... row) {
        return new Run(CHECK, row);
    }

    /** Each of them leads a row of ten back to itself. */
    private static List<List<Due>> roundsOnMixed() {
        return List.of(
            List.of(new Due(Call.pop(), 49), new Due(Call.push(49), 10)),
            List.of(new Due(Call.reverse(), 10), new Due(Call.reverse(), 10)),
            List.of(new Due(Call.mirror(), 10), new Due(Call.mirror(), 10)),
            List.of(new Due(Call.exchange(0, 9), 0), new Due(Call.exchange(9, 0), 0)),
            List.of(new Due(Call.move(0, 9), 0), new Due(Call.move(9, 0), 0)),
            List.of(new Due(Call.push(3), -3), new Due(Call.push(100), -1), new Due(Call.push(4), -2)),
            Questions.about(Rows.mixed()));
    }

    private static List<Due> lastCallsOnMixed() {
        int[] row = Rows.mixed();
        int[] rises = ByDefinition.risesByCount(row);
        int[] falls = ByDefinition.fallsByCount(row);
        return List.of(
            new Due(Call.push(3), -3), new Due(Call.pop(), 49), new Due(Call.exchange(0, 9), 0),
            new Due(Call.reverse(), 10), new Due(Call.mirror(), 10), new Due(Call.move(9, 0), 0),
            new Due(Call.length(), 10), new Due(Call.at(9), 49), new Due(Call.at(10), -1),
            new Due(Call.rise(2), rises[2]), new Due(Call.fall(2), falls[2]),
            new Due(Call.riseOfFirst(10, 1), rises[1]), new Due(Call.riseUpTo(99, 3), rises[3]),
            new Due(Call.rises(), ByDefinition.leastForWhole(rises, 10)),
            new Due(Call.falls(), ByDefinition.leastForWhole(falls, 10)),
            new Due(Call.longestRises(), ByDefinition.longestRises(row)),
            new Due(Call.words(), ByDefinition.words(rises)),
            new Due(Call.inversions(), ByDefinition.inversions(row)));
    }

    private static void lastCall() {
        for (List<Due> round : roundsOnMixed()) {
            for (Due last : lastCallsOnMixed()) {
                Run run = of(Rows.mixed());
                while (run.callsLeft() > round.size()) {
                    run.due(round);
                }
                while (run.callsLeft() > 1) {
                    run.due(Call.length(), 10);
                }
                run.due(last.call(), last.want());
            }
        }
        lastOfManyPushes();
    }

    private static void lastOfManyPushes() {
        Run run = of();
        while (run.callsLeft() > 22) {
            for (int length = 1; length <= 10; length++) {
                run.due(Call.push(10 * length - 1), length);
            }
            run.duePops(9, 19, 29, 39, 49, 59, 69, 79, 89, 99);
        }
        while (run.callsLeft() > 1) {
            run.due(Call.pop(), -1);
        }
        run.due(Call.push(0), 1);
    }

    private static void tenNumbers() {
        Run run = of();
        for (int length = 1; length <= 10; length++) {
            run.due(Call.push(100 - length), length);
        }
        run.due(Call.push(0), -3).dueRow(99, 98, 97, 96, 95, 94, 93, 92, 91, 90);
        for (int[] row : new int[][] {Rows.rising(), Rows.falling(), Rows.mixed()}) {
            of(row).due(Questions.about(row));
        }
    }

    private static void differentNumbers() {
        // Mirror is the one call that makes new numbers; 10 and 89 become each other.
        of(10, 89).due(Call.mirror(), 2).dueRow(89, 10);
        of(10, 89).due(Call.push(10), -2).due(Call.push(89), -2).dueRow(10, 89);
    }

    private static void firstAndLastNumber() {
        int[][] rows = {{0}, {99}, {0, 99}, {99, 0}, {0, 99, 1, 98}, {98, 1, 99, 0}};
        for (int[] row : rows) {
            of(row).dueRow(row).due(Questions.about(row));
        }
        of(0, 99).due(Call.mirror(), 2).dueRow(99, 0);
    }

    private static void emptyAtFirst() {
        // An object that was filled before must not show in a new one.
        of(Rows.mixed()).due(Call.length(), 10);
        of().dueRow().due(Questions.about(new int[0]));
        of().due(Call.pop(), -1);
        of().due(Call.push(0), 1).dueRow(0);
    }

    private static void emptyPart() {
        // It is the longest rising part where there is no other, and one part, not none.
        of().due(Call.longestRises(), 1).due(Call.rise(1), 0).due(Call.fall(1), 0);
        of(5).due(Call.riseOfFirst(0, 1), 0).due(Call.riseUpTo(4, 1), 0);
        // Beside longer parts it does not count.
        of(5).due(Call.longestRises(), 1);
        of(6, 5).due(Call.longestRises(), 2);
    }

    private static void onePlace() {
        // Nothing stands before the first value, so one place alone rises, and falls.
        for (int value : new int[] {0, 1, 50, 98, 99}) {
            of(value).due(Call.rise(1), 1).due(Call.fall(1), 1).due(Call.longestRises(), 1)
                .due(Call.rises(), 1).due(Call.falls(), 1);
        }
        // One more is greater, and one less is less.
        of(0, 1).due(Call.rise(1), 2).due(Call.fall(1), 1).due(Call.rises(), 1).due(Call.falls(), 2);
        of(1, 0).due(Call.rise(1), 1).due(Call.fall(1), 2).due(Call.rises(), 2).due(Call.falls(), 1);
        of(98, 99).due(Call.rise(1), 2).due(Call.fall(1), 1).due(Call.rises(), 1).due(Call.falls(), 2);
        of(99, 98).due(Call.rise(1), 1).due(Call.fall(1), 2).due(Call.rises(), 2).due(Call.falls(), 1);
    }

    private static void moreThanNeeded() {
        for (int length = 0; length <= 10; length++) {
            Run run = of(Rows.firstOfMixed(length));
            for (int k : new int[] {length, length + 1, 10, 11, 100, 256, 65536, MAX - 1, MAX}) {
                run.due(Call.rise(k), length).due(Call.fall(k), length)
                    .due(Call.riseOfFirst(length, k), length).due(Call.riseUpTo(99, k), length);
            }
        }
        // Fewer than k parts do as well: a rising row is a 2-rise.
        of(Rows.rising()).due(Call.rise(1), 10).due(Call.rise(2), 10);
        of(Rows.falling()).due(Call.fall(1), 10).due(Call.fall(2), 10);
    }

    private static void zeroRise() {
        for (int length = 0; length <= 10; length++) {
            // No other part is one, so 0 rises have no place.
            of(Rows.firstOfMixed(length)).due(Call.rise(0), 0).due(Call.fall(0), 0)
                .due(Call.riseOfFirst(length, 0), 0).due(Call.riseOfFirst(0, 0), 0)
                .due(Call.riseUpTo(MIN, 0), 0).due(Call.riseUpTo(99, 0), 0).due(Call.riseUpTo(MAX, 0), 0);
        }
        of().due(Call.rises(), 0).due(Call.falls(), 0);
    }
}

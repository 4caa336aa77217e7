/**
 * Each promise on ordinary rows whose answers are worked out by hand. BoundariesTest and RefusalsTest
 * have the edges and the wrong inputs.
 */
public final class PromisesTest {
    private static final Check CHECK = new Check();

    public static void main(String[] args) {
        CHECK.sentence("Promise 1: A new object", PromisesTest::newObject);
        CHECK.sentence("Promise 2: push", PromisesTest::push);
        CHECK.sentence("Promise 3: pop", PromisesTest::pop);
        CHECK.sentence("Promise 4: exchange", PromisesTest::exchange);
        CHECK.sentence("Promise 5: reverse", PromisesTest::reverse);
        CHECK.sentence("Promise 6: mirror", PromisesTest::mirror);
        CHECK.sentence("Promise 7: move", PromisesTest::move);
        CHECK.sentence("Promise 8: length", PromisesTest::length);
        CHECK.sentence("Promise 9: at", PromisesTest::at);
        CHECK.sentence("Promise 10: rise", PromisesTest::rise);
        CHECK.sentence("Promise 11: fall", PromisesTest::fall);
        CHECK.sentence("Promise 12: riseOfFirst", PromisesTest::riseOfFirst);
        CHECK.sentence("Promise 13: riseUpTo", PromisesTest::riseUpTo);
        CHECK.sentence("Promise 14: rises", PromisesTest::rises);
        CHECK.sentence("Promise 15: falls", PromisesTest::falls);
        CHECK.sentence("Promise 16: longestRises", PromisesTest::longestRises);
        CHECK.sentence("Promise 17: words", PromisesTest::words);
        CHECK.sentence("Promise 18: inversions", PromisesTest::inversions);
        CHECK.end("PromisesTest");
    }

    private static Run of(int... row) {
        return new Run(CHECK, row);
    }

    private static Run five() {
        return of(30, 10, 40, 20, 50);
    }

    private static Run nine() {
        return of(40, 70, 10, 80, 90, 20, 60, 30, 50);
    }

    private static void newObject() {
        of().dueRow();
        // Two objects have two rows, whichever of them is used between the other's calls.
        Run one = of(1, 2);
        Run other = of(4, 3, 5);
        one.dueRow(1, 2).due(Call.rise(1), 2);
        other.dueRow(4, 3, 5).due(Call.rises(), 2);
        one.due(Call.longestRises(), 1).due(Call.pop(), 2);
        other.due(Call.longestRises(), 2).due(Call.pop(), 5);
    }

    private static void push() {
        of().due(Call.push(30), 1).due(Call.push(10), 2).due(Call.push(40), 3).dueRow(30, 10, 40);
    }

    private static void pop() {
        of(7, 3, 5).due(Call.pop(), 5).dueRow(7, 3).due(Call.pop(), 3).dueRow(7);
    }

    private static void exchange() {
        of(5, 6, 7, 8).due(Call.exchange(0, 3), 0).dueRow(8, 6, 7, 5)
            .due(Call.exchange(2, 1), 0).dueRow(8, 7, 6, 5);
    }

    private static void reverse() {
        five().due(Call.reverse(), 5).dueRow(50, 20, 40, 10, 30).due(Call.rise(1), 2);
    }

    private static void mirror() {
        five().due(Call.mirror(), 5).dueRow(69, 89, 59, 79, 49).due(Call.fall(1), 3);
    }

    private static void move() {
        of(10, 11, 12, 13, 14).due(Call.move(1, 3), 0).dueRow(10, 12, 13, 11, 14)
            .due(Call.move(3, 1), 0).dueRow(10, 11, 12, 13, 14);
    }

    private static void length() {
        five().due(Call.length(), 5).due(Call.pop(), 50).due(Call.length(), 4);
    }

    private static void at() {
        five().due(Call.at(3), 20).due(Call.at(1), 10).due(Call.at(2), 40);
    }

    private static void rise() {
        five().due(Call.rise(1), 3).due(Call.rise(2), 5).due(Call.rise(3), 5);
        // 40 70 80 90 and 10 20 30 50 are two rises; 60 stands alone.
        nine().due(Call.rise(1), 4).due(Call.rise(2), 8).due(Call.rise(3), 9);
        // The one longest rise, 1 2 5 6, leaves 4 3, but 4 5 6 and 1 2 3 leave nothing: taking a
        // longest rise away again and again does not find RISE(k).
        of(4, 1, 2, 5, 6, 3).due(Call.rise(1), 4).due(Call.rise(2), 6);
    }

    private static void fall() {
        five().due(Call.fall(1), 2).due(Call.fall(2), 4).due(Call.fall(3), 5);
        // As for rise: 6 5 2 1 leaves 3 4, but 6 5 4 and 3 2 1 leave nothing.
        of(3, 6, 5, 2, 1, 4).due(Call.fall(1), 4).due(Call.fall(2), 6);
    }

    private static void riseOfFirst() {
        five().due(Call.riseOfFirst(2, 1), 1).due(Call.riseOfFirst(2, 2), 2)
            .due(Call.riseOfFirst(4, 1), 2).due(Call.riseOfFirst(4, 2), 4);
    }

    private static void riseUpTo() {
        of(30, 10, 40, 20, 0, 99).due(Call.riseUpTo(35, 1), 2).due(Call.riseUpTo(25, 1), 2)
            .due(Call.riseUpTo(35, 2), 3).due(Call.riseUpTo(35, 3), 4);
    }

    private static void rises() {
        five().due(Call.rises(), 2);
        nine().due(Call.rises(), 3);
    }

    private static void falls() {
        five().due(Call.falls(), 3);
        nine().due(Call.falls(), 4);
    }

    private static void longestRises() {
        // 30 40 50, 10 40 50 and 10 20 50.
        five().due(Call.longestRises(), 3);
        of(2, 1, 4, 3, 6, 5, 8, 7, 10, 9).due(Call.longestRises(), 32);
        // A row that has changed since it was asked must not be answered from old notes.
        of(2, 1, 4, 3).due(Call.longestRises(), 4).due(Call.reverse(), 4).due(Call.longestRises(), 2);
    }

    private static void words() {
        // The lists are 1 1 2 and 1 2 1.
        of(2, 1, 3).due(Call.words(), 2);
        // Three times 1 and twice 2.
        five().due(Call.words(), 5);
        // Five of each: the fifth Catalan number.
        of(5, 6, 7, 8, 9, 0, 1, 2, 3, 4).due(Call.words(), 42);
    }

    private static void inversions() {
        // 30 10, 30 20 and 40 20.
        five().due(Call.inversions(), 3);
    }
}

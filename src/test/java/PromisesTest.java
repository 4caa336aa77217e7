/** Each promise on rows whose answers are worked out by hand: ordinary, at the edges, wrong. */
public final class PromisesTest {
    private static final int MIN = Integer.MIN_VALUE;
    private static final int MAX = Integer.MAX_VALUE;
    private static final Check CHECK = new Check();

    public static void main(String[] args) {
        newObject();
        push();
        pushMakesItsTestsInOrder();
        pop();
        exchange();
        reverse();
        mirror();
        move();
        lengthAndAt();
        rise();
        fall();
        riseOfFirst();
        riseUpTo();
        risesAndFalls();
        longestRises();
        words();
        inversions();
        objectsStandApart();
        CHECK.end("PromisesTest");
    }

    private static RskShapes of(int... row) {
        RskShapes shapes = new RskShapes();
        for (int value : row) {
            shapes.push(value);
        }
        return shapes;
    }

    private static RskShapes full() {
        return of(0, 1, 2, 3, 4, 5, 6, 7, 8, 9);
    }

    private static void due(String call, long got, long want) {
        CHECK.due(call, got, want);
    }

    private static void newObject() {
        CHECK.dueRow("new", new RskShapes());
        due("new, at(0)", new RskShapes().at(0), -1);
    }

    private static void push() {
        RskShapes shapes = new RskShapes();
        due("push(0)", shapes.push(0), 1);
        due("push(99)", shapes.push(99), 2);
        due("push(-1)", shapes.push(-1), -1);
        due("push(100)", shapes.push(100), -1);
        due("push(MIN)", shapes.push(MIN), -1);
        due("push(MAX)", shapes.push(MAX), -1);
        due("push(0) again", shapes.push(0), -2);
        due("push(99) again", shapes.push(99), -2);
        CHECK.dueRow("after refused pushes", shapes, 0, 99);
        due("push(50)", shapes.push(50), 3);
        CHECK.dueRow("after push(50)", shapes, 0, 99, 50);

        // A number that was taken away is not in the row, though its cell may still hold it.
        due("pop()", shapes.pop(), 50);
        due("push(50) after pop()", shapes.push(50), 3);
        // Nor is one that the mirror changed; the one it became is.
        shapes = of(10);
        shapes.mirror();
        due("push(89) after mirror()", shapes.push(89), -2);
        due("push(10) after mirror()", shapes.push(10), 2);
    }

    private static void pushMakesItsTestsInOrder() {
        RskShapes shapes = of(0, 1, 2, 3, 4, 5, 6, 7, 8);
        due("tenth push", shapes.push(9), 10);
        due("full, push(100)", shapes.push(100), -1);
        due("full, push(-1)", shapes.push(-1), -1);
        due("full, push(0)", shapes.push(0), -2);
        due("full, push(9)", shapes.push(9), -2);
        due("full, push(10)", shapes.push(10), -3);
        CHECK.dueRow("full, after refused pushes", shapes, 0, 1, 2, 3, 4, 5, 6, 7, 8, 9);
        shapes.pop();
        due("push(10) after pop()", shapes.push(10), 10);
    }

    private static void pop() {
        RskShapes shapes = of(7, 0);
        due("pop()", shapes.pop(), 0);
        CHECK.dueRow("after pop()", shapes, 7);
        due("pop()", shapes.pop(), 7);
        due("empty, pop()", shapes.pop(), -1);
        due("empty, pop() again", shapes.pop(), -1);
        CHECK.dueRow("after refused pop()", shapes);
        due("push after pops", shapes.push(3), 1);
    }

    private static void exchange() {
        RskShapes shapes = of(5, 6, 7, 8);
        due("exchange(0, 3)", shapes.exchange(0, 3), 0);
        CHECK.dueRow("after exchange(0, 3)", shapes, 8, 6, 7, 5);
        due("exchange(2, 1)", shapes.exchange(2, 1), 0);
        CHECK.dueRow("after exchange(2, 1)", shapes, 8, 7, 6, 5);
        due("exchange(2, 2)", shapes.exchange(2, 2), 0);
        for (int bad : new int[] {-1, 4, 9, 10, MIN, MAX}) {
            due("exchange(0, " + bad + ")", shapes.exchange(0, bad), -1);
            due("exchange(" + bad + ", 0)", shapes.exchange(bad, 0), -1);
            due("exchange(" + bad + ", " + bad + ")", shapes.exchange(bad, bad), -1);
        }
        CHECK.dueRow("after refused exchanges", shapes, 8, 7, 6, 5);
        due("empty, exchange(0, 0)", new RskShapes().exchange(0, 0), -1);
        shapes = full();
        due("full, exchange(9, 0)", shapes.exchange(9, 0), 0);
        CHECK.dueRow("full, after exchange(9, 0)", shapes, 9, 1, 2, 3, 4, 5, 6, 7, 8, 0);
    }

    private static void reverse() {
        due("empty, reverse()", new RskShapes().reverse(), 0);
        RskShapes shapes = of(4);
        due("one, reverse()", shapes.reverse(), 1);
        CHECK.dueRow("one, after reverse()", shapes, 4);
        shapes = of(4, 9, 2);
        due("odd, reverse()", shapes.reverse(), 3);
        CHECK.dueRow("odd, after reverse()", shapes, 2, 9, 4);
        shapes = of(4, 9, 2, 7);
        due("even, reverse()", shapes.reverse(), 4);
        CHECK.dueRow("even, after reverse()", shapes, 7, 2, 9, 4);
        shapes = full();
        due("full, reverse()", shapes.reverse(), 10);
        CHECK.dueRow("full, after reverse()", shapes, 9, 8, 7, 6, 5, 4, 3, 2, 1, 0);
    }

    private static void mirror() {
        due("empty, mirror()", new RskShapes().mirror(), 0);
        RskShapes shapes = of(0, 99, 49, 10);
        due("mirror()", shapes.mirror(), 4);
        CHECK.dueRow("after mirror()", shapes, 99, 0, 50, 89);
        due("mirror() again", shapes.mirror(), 4);
        CHECK.dueRow("after mirror() again", shapes, 0, 99, 49, 10);
        shapes = full();
        due("full, mirror()", shapes.mirror(), 10);
        CHECK.dueRow("full, after mirror()", shapes, 99, 98, 97, 96, 95, 94, 93, 92, 91, 90);
    }

    private static void move() {
        RskShapes shapes = of(10, 11, 12, 13, 14);
        due("move(1, 3)", shapes.move(1, 3), 0);
        CHECK.dueRow("after move(1, 3)", shapes, 10, 12, 13, 11, 14);
        due("move(3, 1)", shapes.move(3, 1), 0);
        CHECK.dueRow("after move(3, 1)", shapes, 10, 11, 12, 13, 14);
        due("move(0, 4)", shapes.move(0, 4), 0);
        CHECK.dueRow("after move(0, 4)", shapes, 11, 12, 13, 14, 10);
        due("move(4, 0)", shapes.move(4, 0), 0);
        due("move(2, 2)", shapes.move(2, 2), 0);
        for (int bad : new int[] {-1, 5, 9, 10, MIN, MAX}) {
            due("move(0, " + bad + ")", shapes.move(0, bad), -1);
            due("move(" + bad + ", 0)", shapes.move(bad, 0), -1);
            due("move(" + bad + ", " + bad + ")", shapes.move(bad, bad), -1);
        }
        CHECK.dueRow("after refused moves", shapes, 10, 11, 12, 13, 14);
        due("empty, move(0, 0)", new RskShapes().move(0, 0), -1);
        shapes = full();
        due("full, move(0, 9)", shapes.move(0, 9), 0);
        CHECK.dueRow("full, after move(0, 9)", shapes, 1, 2, 3, 4, 5, 6, 7, 8, 9, 0);
        due("full, move(9, 0)", shapes.move(9, 0), 0);
        CHECK.dueRow("full, after move(9, 0)", shapes, 0, 1, 2, 3, 4, 5, 6, 7, 8, 9);
    }

    private static void lengthAndAt() {
        RskShapes shapes = of(3, 0, 99);
        due("length()", shapes.length(), 3);
        due("full, length()", full().length(), 10);
        due("at(0)", shapes.at(0), 3);
        due("at(1)", shapes.at(1), 0);
        due("at(2)", shapes.at(2), 99);
        for (int bad : new int[] {-1, 3, 9, 10, MIN, MAX}) {
            due("at(" + bad + ")", shapes.at(bad), -1);
        }
        due("full, at(9)", full().at(9), 9);
        due("full, at(10)", full().at(10), -1);
        shapes.pop();
        due("at(2) after pop()", shapes.at(2), -1);
    }

    private static RskShapes nine() {
        return of(40, 70, 10, 80, 90, 20, 60, 30, 50);
    }

    private static void rise() {
        RskShapes shapes = of(30, 10, 40, 20, 50);
        due("rise(0)", shapes.rise(0), 0);
        due("rise(1)", shapes.rise(1), 3);
        due("rise(2)", shapes.rise(2), 5);
        due("rise(MAX)", shapes.rise(MAX), 5);
        due("rise(-1)", shapes.rise(-1), -1);
        due("rise(MIN)", shapes.rise(MIN), -1);
        due("empty, rise(0)", new RskShapes().rise(0), 0);
        due("empty, rise(MAX)", new RskShapes().rise(MAX), 0);
        due("empty, rise(-1)", new RskShapes().rise(-1), -1);
        due("full, rise(1)", full().rise(1), 10);

        // 40 70 80 90 and 10 20 30 50 are two rises; 60 stands alone.
        due("nine, rise(1)", nine().rise(1), 4);
        due("nine, rise(2)", nine().rise(2), 8);
        due("nine, rise(3)", nine().rise(3), 9);

        // The one longest rise, 1 2 5 6, leaves 4 3, but 4 5 6 and 1 2 3 leave nothing: taking a
        // longest rise away again and again does not find RISE(k).
        RskShapes crossed = of(4, 1, 2, 5, 6, 3);
        due("crossed, rise(1)", crossed.rise(1), 4);
        due("crossed, rise(2)", crossed.rise(2), 6);

        RskShapes falling = full();
        falling.reverse();
        for (int k = 0; k <= 10; k++) {
            due("falling, rise(" + k + ")", falling.rise(k), k);
        }
        due("falling, rise(11)", falling.rise(11), 10);
    }

    private static void fall() {
        RskShapes shapes = of(30, 10, 40, 20, 50);
        due("fall(0)", shapes.fall(0), 0);
        due("fall(1)", shapes.fall(1), 2);
        due("fall(2)", shapes.fall(2), 4);
        due("fall(3)", shapes.fall(3), 5);
        due("fall(MAX)", shapes.fall(MAX), 5);
        due("fall(-1)", shapes.fall(-1), -1);
        due("fall(MIN)", shapes.fall(MIN), -1);
        due("empty, fall(0)", new RskShapes().fall(0), 0);
        due("empty, fall(MAX)", new RskShapes().fall(MAX), 0);
        due("empty, fall(-1)", new RskShapes().fall(-1), -1);
        for (int k = 0; k <= 10; k++) {
            due("rising, fall(" + k + ")", full().fall(k), k);
        }
        due("rising, fall(11)", full().fall(11), 10);
        RskShapes falling = full();
        falling.reverse();
        due("falling, fall(1)", falling.fall(1), 10);
    }

    private static void riseOfFirst() {
        RskShapes shapes = of(30, 10, 40, 20, 50);
        due("riseOfFirst(0, 3)", shapes.riseOfFirst(0, 3), 0);
        due("riseOfFirst(1, 1)", shapes.riseOfFirst(1, 1), 1);
        due("riseOfFirst(2, 1)", shapes.riseOfFirst(2, 1), 1);
        due("riseOfFirst(2, 2)", shapes.riseOfFirst(2, 2), 2);
        due("riseOfFirst(4, 1)", shapes.riseOfFirst(4, 1), 2);
        due("riseOfFirst(4, 2)", shapes.riseOfFirst(4, 2), 4);
        due("riseOfFirst(5, 1)", shapes.riseOfFirst(5, 1), 3);
        due("riseOfFirst(5, 0)", shapes.riseOfFirst(5, 0), 0);
        due("riseOfFirst(5, MAX)", shapes.riseOfFirst(5, MAX), 5);
        for (int bad : new int[] {-1, 6, 10, 11, MIN, MAX}) {
            due("riseOfFirst(" + bad + ", 1)", shapes.riseOfFirst(bad, 1), -1);
            due("riseOfFirst(" + bad + ", -1)", shapes.riseOfFirst(bad, -1), -1);
        }
        due("riseOfFirst(0, -1)", shapes.riseOfFirst(0, -1), -2);
        due("riseOfFirst(5, MIN)", shapes.riseOfFirst(5, MIN), -2);
        due("full, riseOfFirst(10, 1)", full().riseOfFirst(10, 1), 10);
        due("full, riseOfFirst(11, 1)", full().riseOfFirst(11, 1), -1);
    }

    private static void riseUpTo() {
        RskShapes shapes = of(30, 10, 40, 20, 0, 99);
        due("riseUpTo(30, 1)", shapes.riseUpTo(30, 1), 2);
        due("riseUpTo(29, 1)", shapes.riseUpTo(29, 1), 2);
        due("riseUpTo(30, 2)", shapes.riseUpTo(30, 2), 3);
        due("riseUpTo(30, 3)", shapes.riseUpTo(30, 3), 4);
        due("riseUpTo(0, 1)", shapes.riseUpTo(0, 1), 1);
        due("riseUpTo(-1, 1)", shapes.riseUpTo(-1, 1), 0);
        due("riseUpTo(MIN, 1)", shapes.riseUpTo(MIN, 1), 0);
        due("riseUpTo(98, 1)", shapes.riseUpTo(98, 1), 2);
        due("riseUpTo(99, 1)", shapes.riseUpTo(99, 1), 3);
        due("riseUpTo(100, 1)", shapes.riseUpTo(100, 1), 3);
        due("riseUpTo(MAX, MAX)", shapes.riseUpTo(MAX, MAX), 6);
        due("riseUpTo(MAX, 0)", shapes.riseUpTo(MAX, 0), 0);
        due("riseUpTo(50, -1)", shapes.riseUpTo(50, -1), -1);
        due("riseUpTo(MIN, MIN)", shapes.riseUpTo(MIN, MIN), -1);
        due("empty, riseUpTo(99, 1)", new RskShapes().riseUpTo(99, 1), 0);
    }

    private static void risesAndFalls() {
        due("empty, rises()", new RskShapes().rises(), 0);
        due("empty, falls()", new RskShapes().falls(), 0);
        due("one, rises()", of(0).rises(), 1);
        due("one, falls()", of(99).falls(), 1);
        due("rises()", of(30, 10, 40, 20, 50).rises(), 2);
        due("falls()", of(30, 10, 40, 20, 50).falls(), 3);
        due("nine, rises()", nine().rises(), 3);
        due("nine, falls()", nine().falls(), 4);
        RskShapes shapes = full();
        due("rising, rises()", shapes.rises(), 1);
        due("rising, falls()", shapes.falls(), 10);
        shapes.reverse();
        due("falling, rises()", shapes.rises(), 10);
        due("falling, falls()", shapes.falls(), 1);
    }

    private static void longestRises() {
        due("empty, longestRises()", new RskShapes().longestRises(), 1);
        due("one, longestRises()", of(0).longestRises(), 1);
        due("rising, longestRises()", full().longestRises(), 1);
        RskShapes shapes = full();
        shapes.reverse();
        due("falling, longestRises()", shapes.longestRises(), 10);
        due("3 x 3 x 4, longestRises()", of(3, 2, 1, 6, 5, 4, 10, 9, 8, 7).longestRises(), 36);
        due("five pairs, longestRises()", of(2, 1, 4, 3, 6, 5, 8, 7, 10, 9).longestRises(), 32);
        // 99 can end a part as well as any other number.
        due("with 99, longestRises()", of(98, 97, 99).longestRises(), 2);
        // An object that has been asked once must not answer from its old notes.
        shapes = of(2, 1, 4, 3);
        due("first, longestRises()", shapes.longestRises(), 4);
        shapes.reverse();
        due("then, longestRises()", shapes.longestRises(), 2);
        shapes.pop();
        shapes.pop();
        shapes.pop();
        shapes.pop();
        due("emptied, longestRises()", shapes.longestRises(), 1);
    }

    private static void words() {
        due("empty, words()", new RskShapes().words(), 1);
        due("one, words()", of(5).words(), 1);
        due("rising, words()", full().words(), 1);
        RskShapes shapes = full();
        shapes.reverse();
        due("falling, words()", shapes.words(), 1);
        // The shape 2, 1 has 1 1 2 and 1 2 1.
        due("2 1 3, words()", of(2, 1, 3).words(), 2);
        // Two equal lines of five: the fifth Catalan number.
        due("5 + 5, words()", of(5, 6, 7, 8, 9, 0, 1, 2, 3, 4).words(), 42);
        // No other shape of ten cells has as many words.
        due("4 + 3 + 2 + 1, words()", of(9, 7, 8, 4, 5, 6, 0, 1, 2, 3).words(), 768);
    }

    private static void inversions() {
        due("empty, inversions()", new RskShapes().inversions(), 0);
        due("one, inversions()", of(8).inversions(), 0);
        due("rising, inversions()", full().inversions(), 0);
        RskShapes shapes = full();
        shapes.reverse();
        due("falling, inversions()", shapes.inversions(), 45);
        due("inversions()", of(30, 10, 40, 20, 50).inversions(), 3);
    }

    private static void objectsStandApart() {
        RskShapes one = of(1, 2);
        RskShapes other = of(4, 3, 5);
        CHECK.dueRow("one beside other", one, 1, 2);
        CHECK.dueRow("other beside one", other, 4, 3, 5);
        due("one, rise(1)", one.rise(1), 2);
        due("other, rises()", other.rises(), 2);
    }
}

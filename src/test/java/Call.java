import java.util.function.ToIntFunction;

/** A call on an object together with its name, so that a wrong answer can be told. */
record Call(String name, ToIntFunction<RskShapes> how) {
    int on(RskShapes shapes) {
        return how.applyAsInt(shapes);
    }

    static Call push(int value) {
        return new Call("push(" + value + ")", x -> x.push(value));
    }

    static Call pop() {
        return new Call("pop()", RskShapes::pop);
    }

    static Call exchange(int i, int j) {
        return new Call("exchange(" + i + ", " + j + ")", x -> x.exchange(i, j));
    }

    static Call reverse() {
        return new Call("reverse()", RskShapes::reverse);
    }

    static Call mirror() {
        return new Call("mirror()", RskShapes::mirror);
    }

    static Call move(int from, int to) {
        return new Call("move(" + from + ", " + to + ")", x -> x.move(from, to));
    }

    static Call length() {
        return new Call("length()", RskShapes::length);
    }

    static Call at(int place) {
        return new Call("at(" + place + ")", x -> x.at(place));
    }

    static Call rise(int k) {
        return new Call("rise(" + k + ")", x -> x.rise(k));
    }

    static Call fall(int k) {
        return new Call("fall(" + k + ")", x -> x.fall(k));
    }

    static Call riseOfFirst(int count, int k) {
        return new Call("riseOfFirst(" + count + ", " + k + ")", x -> x.riseOfFirst(count, k));
    }

    static Call riseUpTo(int bound, int k) {
        return new Call("riseUpTo(" + bound + ", " + k + ")", x -> x.riseUpTo(bound, k));
    }

    static Call rises() {
        return new Call("rises()", RskShapes::rises);
    }

    static Call falls() {
        return new Call("falls()", RskShapes::falls);
    }

    static Call longestRises() {
        return new Call("longestRises()", RskShapes::longestRises);
    }

    static Call words() {
        return new Call("words()", RskShapes::words);
    }

    static Call inversions() {
        return new Call("inversions()", RskShapes::inversions);
    }
}

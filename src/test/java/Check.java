/** Counts the answers that are not as due, and ends a test with exit code 1 if there was one. */
final class Check {
    private static final int SHOWN = 50;

    private int wrong = 0;
    private int made = 0;

    void due(String call, long got, long want) {
        made++;
        if (got == want) {
            return;
        }
        wrong++;
        // One fault can spoil every order of a row; some fifty lines tell enough.
        if (wrong <= SHOWN) {
            System.out.println(call + " answered " + got + ", due is " + want);
        }
    }

    /** Length and numbers of the row are those that are due. */
    void dueRow(String after, RskShapes shapes, int... want) {
        due(after + ", length()", shapes.length(), want.length);
        for (int place = 0; place < want.length; place++) {
            due(after + ", at(" + place + ")", shapes.at(place), want[place]);
        }
    }

    void end(String test) {
        System.out.println(test + ": " + made + " checks, " + wrong + " wrong");
        if (wrong != 0 || made == 0) {
            System.exit(1);
        }
    }
}

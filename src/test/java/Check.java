import java.util.function.Supplier;

/** Counts the answers that are not as due, and ends a test with exit code 1 if there was one. */
final class Check {
    private static final int SHOWN = 50;

    private int wrong = 0;
    private int made = 0;
    private String sentence = "";

    /** One sentence of the document, with a test of its own. */
    void sentence(String words, Runnable test) {
        int madeBefore = made;
        sentence = words;
        test.run();
        // A test that looks at nothing would never fail.
        due("checks made, if none 0,", made > madeBefore ? 1 : 0, 1);
        sentence = "";
    }

    void due(String call, long got, long want) {
        due(() -> call, got, want);
    }

    void due(Supplier<String> call, long got, long want) {
        made++;
        if (got == want) {
            return;
        }
        wrong++;
        // One fault can spoil every order of a row; some fifty lines tell enough.
        if (wrong <= SHOWN) {
            String broken = sentence.isEmpty() ? "" : "\"" + sentence + "\": ";
            System.out.println(broken + call.get() + " answered " + got + ", due is " + want);
        }
    }

    void end(String test) {
        System.out.println(test + ": " + made + " checks, " + wrong + " wrong");
        if (wrong != 0 || made == 0) {
            System.exit(1);
        }
    }
}

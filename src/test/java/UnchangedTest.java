import java.util.ArrayList;
import java.util.List;

/**
 * After a refused call, and after a question, every question is answered as before and the same
 * numbers come away from the end of the row.
 */
public final class UnchangedTest {
    private static final int[][] ROWS = {
        {}, {0}, {99}, {99, 0}, {30, 10, 40, 20, 50}, {40, 70, 10, 80, 90, 20, 60, 30, 50},
        Rows.rising(), Rows.falling(), Rows.mixed()};
    private static final Check CHECK = new Check();

    public static void main(String[] args) {
        for (int[] row : ROWS) {
            List<Due> questions = Questions.about(row);
            CHECK.sentence("No question changes anything.",
                () -> questions.forEach(question -> changesNothing(row, question, questions)));
            CHECK.sentence("A refused call changes nothing.",
                () -> refusedCalls(row).forEach(refused -> changesNothing(row, refused, questions)));
            CHECK.sentence("A refused call changes nothing, nor do many of them in one run.",
                () -> manyRefusedCalls(row));
        }
        CHECK.end("UnchangedTest");
    }

    private static void changesNothing(int[] row, Due due, List<Due> questions) {
        // Made again only after all is looked at, as a wrong change made twice can undo itself.
        new Run(CHECK, row).due(due.call(), due.want()).due(questions)
            .due(due.call(), due.want()).duePops(row);
        new Run(CHECK, row).due(due.call(), due.want()).duePops(row);
    }

    private static void manyRefusedCalls(int[] row) {
        Run run = new Run(CHECK, row);
        List<Due> refused = refusedCalls(row);
        int callsToLook = 2 * row.length + 3;
        for (int call = 0; run.callsLeft() > callsToLook; call++) {
            Due due = refused.get(call % refused.size());
            run.due(due.call(), due.want());
        }
        run.dueRow(row).duePops(row);
    }

    private static List<Due> refusedCalls(int[] row) {
        List<Due> dues = new ArrayList<>();
        addRefusedPushes(dues, row);
        if (row.length == 0) {
            dues.add(new Due(Call.pop(), -1));
        }
        addRefusedPlaces(dues, row);
        addRefusedQuestions(dues, row);
        return dues;
    }

    private static void addRefusedPushes(List<Due> dues, int[] row) {
        for (int value : new int[] {-1, 100, Rows.MIN, Rows.MAX}) {
            dues.add(new Due(Call.push(value), -1));
        }
        for (int value : row) {
            dues.add(new Due(Call.push(value), -2));
        }
        if (row.length == 10) {
            // 11 is in none of the rows.
            dues.add(new Due(Call.push(11), -3));
        }
    }

    private static void addRefusedPlaces(List<Due> dues, int[] row) {
        for (int bad : Rows.badPlaces(row.length)) {
            dues.add(new Due(Call.exchange(bad, bad), -1));
            dues.add(new Due(Call.move(bad, bad), -1));
            for (int good = 0; good < row.length; good++) {
                dues.add(new Due(Call.exchange(bad, good), -1));
                dues.add(new Due(Call.exchange(good, bad), -1));
                dues.add(new Due(Call.move(bad, good), -1));
                dues.add(new Due(Call.move(good, bad), -1));
            }
        }
    }

    private static void addRefusedQuestions(List<Due> dues, int[] row) {
        for (int bad : Rows.badPlaces(row.length)) {
            dues.add(new Due(Call.at(bad), -1));
        }
        for (int k : Rows.badCounts()) {
            dues.add(new Due(Call.rise(k), -1));
            dues.add(new Due(Call.fall(k), -1));
            dues.add(new Due(Call.riseOfFirst(row.length, k), -2));
            dues.add(new Due(Call.riseOfFirst(row.length + 1, k), -1));
            dues.add(new Due(Call.riseUpTo(50, k), -1));
        }
    }
}

import java.util.ArrayList;
import java.util.List;
import java.util.stream.Collectors;

/** A new object and the calls made on it, so that a wrong answer is told with all that led to it. */
final class Run {
    /** What an object answers after this many calls is free, so no test may look at it. */
    static final int CALLS = 512;

    private final Check check;
    private final RskShapes shapes = new RskShapes();
    private final List<Call> made = new ArrayList<>();

    /** The numbers of the row are pushed, one after the other. */
    Run(Check check, int... row) {
        this.check = check;
        for (int place = 0; place < row.length; place++) {
            due(Call.push(row[place]), place + 1);
        }
    }

    Run due(Call call, int want) {
        if (callsLeft() == 0) {
            throw new IllegalStateException("a test makes more than " + CALLS + " calls on one object");
        }
        made.add(call);
        check.due(this::told, call.on(shapes), want);
        return this;
    }

    Run due(List<Due> dues) {
        for (Due due : dues) {
            due(due.call(), due.want());
        }
        return this;
    }

    /** The row has these numbers and no more. */
    Run dueRow(int... want) {
        due(Call.length(), want.length);
        for (int place = 0; place < want.length; place++) {
            due(Call.at(place), want[place]);
        }
        return due(Call.at(want.length), -1);
    }

    /** Takes the row away from its end; what comes must be these numbers, the last one first. */
    Run duePops(int... row) {
        for (int place = row.length - 1; place >= 0; place--) {
            due(Call.pop(), row[place]);
        }
        return due(Call.pop(), -1);
    }

    int callsLeft() {
        return CALLS - made.size();
    }

    private String told() {
        return made.stream().map(Call::name).collect(Collectors.joining(", "));
    }
}

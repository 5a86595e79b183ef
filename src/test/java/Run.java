import java.util.ArrayList;
import java.util.List;

/** A run of calls on one new object, each with the answer that is due. Its name says which sentence it tests. */
final class Run {
    private static int wrong = 0;

    private final Counted object = new Counted();
    // The calls of which it is not said that they change nothing.
    private final List<Call> changing = new ArrayList<>();
    private final String name;
    private List<String> due;

    Run(String name) {
        this.name = name;
    }

    Run due(String call, int want) {
        changing.add(Call.read(call));
        due = null;
        answerDue(call, want);
        return this;
    }

    /** The call answers -1, and the object stays as one on which it was never made. */
    Run refused(String call) {
        return asked(call, -1);
    }

    /** The call answers as is due, and the object stays as one on which it was never made. */
    Run asked(String call, int want) {
        answerDue(call, want);
        if (due == null) {
            due = Portrait.after(changing);
        }
        List<String> got = Portrait.after(object.made());
        if (!got.equals(due)) {
            wrong(call + " changed something: " + Portrait.difference(due, got));
        }
        return this;
    }

    /** Empties the working text and puts these lines in. */
    Run write(int... lines) {
        Call askLines = Call.read("lines()");
        changing.add(askLines);
        for (int left = object.make(askLines); left > 0; left--) {
            Call takeFirst = Call.read("take(0)");
            changing.add(takeFirst);
            object.make(takeFirst);
        }
        for (int i = 0; i < lines.length; i++) {
            due("put(" + i + ", " + lines[i] + ")", i + 1);
        }
        due = null;
        return this;
    }

    /** The working text has these lines and no others. */
    Run reads(int... lines) {
        due("lines()", lines.length);
        for (int i = 0; i < lines.length; i++) {
            due("line(" + i + ")", lines[i]);
        }
        return due("line(" + lines.length + ")", -1);
    }

    /** How many calls have been made so far. */
    int calls() {
        return object.made().size();
    }

    static void wrong(String what, String where) {
        wrong++;
        System.out.println(where + ": " + what);
    }

    /** Ends the test: exit code 1 if an answer was wrong. */
    static void end() {
        if (wrong != 0) {
            System.out.println(wrong + " answers are not as due");
            System.exit(1);
        }
    }

    private void answerDue(String call, int want) {
        int got = object.make(Call.read(call));
        if (got != want) {
            wrong(call + " answered " + got + ", due is " + want);
        }
    }

    private void wrong(String what) {
        wrong(what, name + ", call " + calls());
    }
}

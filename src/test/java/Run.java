import java.util.ArrayList;
import java.util.List;

/**
 * A run of calls on one new object. A call is written as the document and the issues write it,
 * such as "put(0, 10)", so that a told fault can be copied into a test as it stands.
 */
final class Run {
    // The document frees every answer after this many calls, so a test that makes more proves nothing.
    private static final int MOST_CALLS = 512;

    private static int wrong = 0;

    private final RevisionStore store = new RevisionStore();
    private final String name;
    private int calls = 0;

    Run(String name) {
        this.name = name;
    }

    Run due(String call, int want) {
        int got = call(call);
        if (got != want) {
            wrong(call + " answered " + got + ", due is " + want);
        }
        return this;
    }

    /** The call is refused with -1 and nothing that can be asked about the first numbers changes. */
    Run refused(String call) {
        List<Integer> before = look();
        due(call, -1);
        List<Integer> after = look();
        if (!before.equals(after)) {
            wrong(call + " changed the state from " + before + " to " + after);
        }
        return this;
    }

    /** Empties the working text and puts these lines in. */
    Run write(int... lines) {
        for (int left = call("lines()"); left > 0; left--) {
            call("take(0)");
        }
        for (int i = 0; i < lines.length; i++) {
            due("put(" + i + ", " + lines[i] + ")", i + 1);
        }
        return this;
    }

    /** The working text has these lines and no others. */
    Run reads(int... lines) {
        due("lines()", lines.length);
        for (int i = 0; i < lines.length; i++) {
            due("line(" + i + ")", lines[i]);
        }
        return due("line(" + lines.length + ")", -1);
    }

    int call(String call) {
        calls++;
        if (calls > MOST_CALLS) {
            throw new IllegalStateException(name + ": more calls than the document allows");
        }
        int open = call.indexOf('(');
        String inside = call.substring(open + 1, call.length() - 1).trim();
        String[] parts = inside.isEmpty() ? new String[0] : inside.split(",");
        int[] given = new int[parts.length];
        for (int i = 0; i < parts.length; i++) {
            given[i] = Integer.parseInt(parts[i].trim());
        }
        return answer(call.substring(0, open), given);
    }

    static void wrong(String what, String where) {
        wrong++;
        System.out.println(where + ": " + what);
    }

    /** Ends the test: exit code 1 if an answer was wrong. */
    static void end() {
        if (wrong != 0) {
            System.out.println(wrong + " answers are not as due");
            System.exit(1);
        }
    }

    private void wrong(String what) {
        wrong(what, name + ", call " + calls);
    }

    private int answer(String method, int[] given) {
        switch (method + "/" + given.length) {
            case "put/2": return store.put(given[0], given[1]);
            case "take/1": return store.take(given[0]);
            case "lines/0": return store.lines();
            case "line/1": return store.line(given[0]);
            case "commit/1": return store.commit(given[0]);
            case "checkout/1": return store.checkout(given[0]);
            case "remove/1": return store.remove(given[0]);
            case "parent/1": return store.parent(given[0]);
            case "distance/2": return store.distance(given[0], given[1]);
            case "changed/1": return store.changed(given[0]);
            case "base/2": return store.base(given[0], given[1]);
            case "find/0": return store.find();
            default: throw new IllegalArgumentException("no such call: " + method + "/" + given.length);
        }
    }

    private List<Integer> look() {
        List<Integer> seen = new ArrayList<>();
        int lines = call("lines()");
        seen.add(lines);
        for (int place = 0; place < lines; place++) {
            seen.add(call("line(" + place + ")"));
        }
        seen.add(call("find()"));
        for (int revision = 0; revision < 4; revision++) {
            seen.add(call("parent(" + revision + ")"));
            seen.add(call("changed(" + revision + ")"));
        }
        return seen;
    }
}

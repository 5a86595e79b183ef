import java.util.ArrayList;
import java.util.Arrays;
import java.util.List;

/** In each state at an edge, every call that the document refuses there answers -1 and changes nothing. */
public final class RefusedCallsTest {
    private static final int NUMBERS = 40;
    private static final int[] FAR = {
        Integer.MIN_VALUE, Integer.MIN_VALUE + 1, -65536, -256, -255, -41, -40, -12, -11, -10, -3,
        256, 257, 65536, 214748364, 214748365, Integer.MAX_VALUE - 1, Integer.MAX_VALUE
    };
    // So many calls leave room for those that build the state and those that look at it.
    private static final int CALLS_PER_OBJECT = 60;

    private final String name;
    private final List<Call> calls = new ArrayList<>();
    private final List<Integer> held = new ArrayList<>();
    private int lines;
    private int given;

    private RefusedCallsTest(String name) {
        this.name = name;
    }

    public static void main(String[] args) {
        new RefusedCallsTest("a new object").check();
        new RefusedCallsTest("a text of one line").put(1).check();
        new RefusedCallsTest("a text of nine lines").put(9).commit(-1).check();
        new RefusedCallsTest("a text of ten lines").put(10).check();
        new RefusedCallsTest("a text of ten lines, committed").put(10).commit(-1).commit(0).check();
        new RefusedCallsTest("all revisions removed").put(2).commit(-1).commit(0).remove(0).remove(1).check();
        new RefusedCallsTest("one in the midst removed").put(1).commit(-1).put(1).commit(0).put(1).commit(1)
            .remove(1).check();
        new RefusedCallsTest("eleven held").put(1).chain(11).check();
        new RefusedCallsTest("twelve held").put(1).chain(12).check();
        new RefusedCallsTest("twelve held after one was removed").put(3).chain(12).remove(5).commit(11).check();
        new RefusedCallsTest("thirty-nine numbers given").put(1).given(39, 0).check();
        new RefusedCallsTest("forty numbers given, none held").put(1).given(40, 0).check();
        new RefusedCallsTest("forty numbers given, one held").put(10).given(40, 1).check();
        new RefusedCallsTest("forty numbers given, eleven held").given(40, 11).check();
        new RefusedCallsTest("forty numbers given, twelve held").put(10).given(40, 12).check();
        Run.end();
    }

    private RefusedCallsTest put(int count) {
        for (int i = 0; i < count; i++) {
            calls.add(Call.read("put(" + lines + ", " + (lines * 25) + ")"));
            lines++;
        }
        return this;
    }

    private RefusedCallsTest commit(int parent) {
        calls.add(Call.read("commit(" + parent + ")"));
        held.add(given);
        given++;
        return this;
    }

    private RefusedCallsTest remove(int revision) {
        calls.add(Call.read("remove(" + revision + ")"));
        held.remove((Integer) revision);
        return this;
    }

    private RefusedCallsTest chain(int count) {
        for (int i = 0; i < count; i++) {
            commit(given - 1);
        }
        return this;
    }

    /** Gives so many numbers and leaves the last ones held, each the parent of the next. */
    private RefusedCallsTest given(int numbers, int left) {
        while (given < numbers) {
            commit(held.isEmpty() ? -1 : given - 1);
            if (held.size() > left || held.size() == left && given < numbers) {
                remove(held.get(0));
            }
        }
        return this;
    }

    private void check() {
        checkState();
        List<String> refused = refusedCalls();
        List<String> due = Portrait.after(calls);
        for (int from = 0; from < refused.size(); from += CALLS_PER_OBJECT) {
            List<String> some = refused.subList(from, Math.min(from + CALLS_PER_OBJECT, refused.size()));
            checkOnOneObject(some, due);
        }
    }

    // What is refused is told from the lines and the revisions held, so these have to be as thought.
    private void checkState() {
        Counted object = Counted.after(calls);
        boolean asThought = object.make(Call.read("lines()")) == lines;
        for (int number = 0; number < NUMBERS; number++) {
            boolean isHeld = object.make(Call.read("parent(" + number + ")")) != -1;
            asThought &= isHeld == held.contains(number);
        }
        if (!asThought) {
            Run.wrong("the state could not be built", name);
        }
    }

    private void checkOnOneObject(List<String> refused, List<String> due) {
        Counted object = Counted.after(calls);
        for (String text : refused) {
            int got = object.make(Call.read(text));
            if (got != -1) {
                Run.wrong(text + " answered " + got + ", due is -1", name);
            }
        }
        List<String> after = Portrait.after(object.made());
        if (!after.equals(due)) {
            Run.wrong("one of " + refused + " changed something: " + Portrait.difference(due, after), name);
        }
    }

    private List<String> refusedCalls() {
        List<String> refused = new ArrayList<>();
        for (int number : near()) {
            addPlace(refused, number);
            addLine(refused, number);
            addRevision(refused, number);
        }
        if (held.isEmpty()) {
            refused.add("find()");
        }
        return refused;
    }

    private static List<Integer> near() {
        List<Integer> near = new ArrayList<>();
        for (int number = -2; number <= NUMBERS + 1; number++) {
            near.add(number);
        }
        Arrays.stream(FAR).forEach(near::add);
        return near;
    }

    private void addPlace(List<String> refused, int place) {
        if (place < 0 || place > lines || lines == 10) {
            refused.add("put(" + place + ", 7)");
            refused.add("put(" + place + ", 0)");
            refused.add("put(" + place + ", 255)");
        }
        if (place < 0 || place >= lines) {
            refused.add("take(" + place + ")");
            refused.add("line(" + place + ")");
        }
    }

    private void addLine(List<String> refused, int line) {
        if (line < 0 || line > 255) {
            refused.add("put(0, " + line + ")");
            refused.add("put(" + lines + ", " + line + ")");
            refused.add("put(-1, " + line + ")");
        }
    }

    private void addRevision(List<String> refused, int revision) {
        boolean noMore = held.size() == 12 || given == NUMBERS;
        if (noMore || revision != -1 && !held.contains(revision)) {
            refused.add("commit(" + revision + ")");
        }
        if (held.contains(revision)) {
            return;
        }
        refused.add("checkout(" + revision + ")");
        refused.add("remove(" + revision + ")");
        refused.add("parent(" + revision + ")");
        refused.add("changed(" + revision + ")");
        for (int other : held) {
            refused.add("distance(" + revision + ", " + other + ")");
            refused.add("distance(" + other + ", " + revision + ")");
            refused.add("base(" + revision + ", " + other + ")");
            refused.add("base(" + other + ", " + revision + ")");
        }
        refused.add("distance(" + revision + ", " + revision + ")");
        refused.add("base(" + revision + ", " + revision + ")");
    }
}

import java.util.ArrayList;
import java.util.List;

/**
 * What later calls tell of an object on which a row of calls has been made: two objects with the same portrait
 * hold the same state. Each part is taken from an object of its own, because taking it may change the object
 * and because all parts together would be more calls than the document allows.
 */
final class Portrait {
    private static final int NUMBERS = 40;

    private final List<String> seen = new ArrayList<>();
    private Counted object;

    private Portrait() {
    }

    static List<String> after(List<Call> calls) {
        Portrait portrait = new Portrait();
        portrait.object = Counted.after(calls);
        portrait.workingText();
        portrait.ofEachNumber("parent");
        portrait.object = Counted.after(calls);
        portrait.ofEachNumber("changed");
        portrait.object = Counted.after(calls);
        portrait.ofEachPair("distance");
        portrait.object = Counted.after(calls);
        portrait.ofEachPair("base");
        portrait.object = Counted.after(calls);
        portrait.textOfEach();
        portrait.object = Counted.after(calls);
        portrait.editing();
        portrait.object = Counted.after(calls);
        portrait.nextNumbers();
        portrait.object = Counted.after(calls);
        portrait.removingAll();
        return portrait.seen;
    }

    /** The first thing in which two portraits differ. */
    static String difference(List<String> before, List<String> after) {
        for (int i = 0; i < before.size() && i < after.size(); i++) {
            if (!before.get(i).equals(after.get(i))) {
                return before.get(i) + " became " + after.get(i);
            }
        }
        return "their lengths differ";
    }

    private int ask(String call) {
        int answer = object.make(Call.read(call));
        seen.add(call + " = " + answer);
        return answer;
    }

    private void workingText() {
        int lines = ask("lines()");
        for (int place = 0; place < lines; place++) {
            ask("line(" + place + ")");
        }
        ask("find()");
    }

    private void ofEachNumber(String method) {
        for (int number = 0; number < NUMBERS; number++) {
            ask(method + "(" + number + ")");
        }
    }

    private void ofEachPair(String method) {
        List<Integer> held = held();
        for (int a : held) {
            for (int b : held) {
                ask(method + "(" + a + ", " + b + ")");
            }
        }
    }

    private void textOfEach() {
        for (int number : held()) {
            int lines = ask("checkout(" + number + ")");
            for (int place = 0; place < lines; place++) {
                ask("line(" + place + ")");
            }
        }
    }

    private void editing() {
        ask("take(0)");
        ask("put(0, 1)");
        ask("put(1, 2)");
        workingText();
    }

    private void nextNumbers() {
        int number = ask("commit(-1)");
        ask("parent(" + number + ")");
        ask("checkout(" + number + ")");
        ask("commit(" + number + ")");
    }

    private void removingAll() {
        List<Integer> held = held();
        for (int number : held) {
            ask("remove(" + number + ")");
            for (int other : held) {
                ask("parent(" + other + ")");
            }
        }
    }

    private List<Integer> held() {
        List<Integer> held = new ArrayList<>();
        for (int number = 0; number < NUMBERS; number++) {
            if (ask("parent(" + number + ")") != -1) {
                held.add(number);
            }
        }
        return held;
    }
}

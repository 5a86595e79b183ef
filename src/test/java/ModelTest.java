/** Long runs of mixed calls, each answer compared with that of the model. */
public final class ModelTest {
    private static final int RUNS = 600;
    private static final int CALLS = 512;

    // How many of a hundred calls are put, take, commit, checkout and remove; the rest ask.
    private static final int[][] MIXES = {
        {30, 10, 15, 5, 5},
        {10, 5, 30, 5, 25},
        {25, 5, 12, 3, 10},
        {15, 15, 20, 20, 12},
    };

    private final RevisionStore store = new RevisionStore();
    private final Model model = new Model();
    private final Numbers numbers;
    private final String name;
    private final int[] mix;
    private final int differentLines;
    private int newest = -1;

    private ModelTest(int run) {
        name = "run " + run;
        numbers = new Numbers(run);
        mix = MIXES[run % MIXES.length];
        differentLines = 1 + run % 5;
    }

    public static void main(String[] args) {
        for (int run = 0; run < RUNS; run++) {
            ModelTest test = new ModelTest(run);
            for (int call = 1; call <= CALLS; call++) {
                test.anyCall(call);
            }
        }
        Run.end();
    }

    private void anyCall(int call) {
        int kind = numbers.below(100);
        int a = revision();
        int b = revision();
        int place = place();
        if ((kind -= mix[0]) < 0) {
            int line = line();
            due(call, "put(" + place + ", " + line + ")", store.put(place, line), model.put(place, line));
        } else if ((kind -= mix[1]) < 0) {
            due(call, "take(" + place + ")", store.take(place), model.take(place));
        } else if ((kind -= mix[2]) < 0) {
            int number = model.commit(a);
            newest = Math.max(newest, number);
            due(call, "commit(" + a + ")", store.commit(a), number);
        } else if ((kind -= mix[3]) < 0) {
            due(call, "checkout(" + a + ")", store.checkout(a), model.checkout(a));
        } else if ((kind -= mix[4]) < 0) {
            due(call, "remove(" + a + ")", store.remove(a), model.remove(a));
        } else {
            ask(call, a, b, place);
        }
    }

    private void ask(int call, int a, int b, int place) {
        switch (numbers.below(7)) {
            case 0: due(call, "lines()", store.lines(), model.lines()); break;
            case 1: due(call, "line(" + place + ")", store.line(place), model.line(place)); break;
            case 2: due(call, "parent(" + a + ")", store.parent(a), model.parent(a)); break;
            case 3: due(call, "distance(" + a + ", " + b + ")", store.distance(a, b), model.distance(a, b)); break;
            case 4: due(call, "changed(" + a + ")", store.changed(a), model.changed(a)); break;
            case 5: due(call, "base(" + a + ", " + b + ")", store.base(a, b), model.base(a, b)); break;
            default: due(call, "find()", store.find(), model.find()); break;
        }
    }

    private void due(int call, String text, int got, int want) {
        if (got != want) {
            Run.wrong(text + " answered " + got + ", due is " + want, name + ", call " + call);
        }
    }

    private int revision() {
        if (numbers.below(20) == 0) {
            return numbers.extreme();
        }
        // Most of those held are among the newest numbers.
        int back = numbers.below(numbers.below(4) == 0 ? 41 : 14);
        return Math.max(-1, newest - back);
    }

    private int place() {
        return numbers.below(20) == 0 ? numbers.extreme() : numbers.below(model.lines() + 2);
    }

    private int line() {
        if (numbers.below(20) == 0) {
            return numbers.extreme();
        }
        return numbers.below(10) == 0 ? numbers.below(256) : numbers.below(differentLines);
    }
}

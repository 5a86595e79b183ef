/** "An object is used for at most 512 calls after it has been made": the 512th still answers as promised. */
public final class WhatItIsTest {
    private static final String[] LAST_CALLS = {
        "put(1, 15)", "take(0)", "lines()", "line(2)", "commit(1)", "checkout(0)", "remove(0)", "parent(1)",
        "distance(0, 1)", "changed(0)", "base(1, 0)", "find()",
        "put(0, 256)", "take(3)", "line(3)", "commit(2)", "checkout(2)", "remove(2)", "parent(2)",
        "distance(0, 2)", "changed(2)", "base(2, 0)"
    };
    private static final int[] DUE = {4, 10, 3, 30, 2, 2, 1, 0, 1, 1, 0, 1, -1, -1, -1, -1, -1, -1, -1, -1, -1, -1};

    public static void main(String[] args) {
        for (int i = 0; i < LAST_CALLS.length; i++) {
            afterQuestions(LAST_CALLS[i], DUE[i]);
            afterChanges(LAST_CALLS[i], DUE[i]);
            afterRefusedCalls(LAST_CALLS[i], DUE[i]);
        }
        Run.end();
    }

    private static Run begun(String name) {
        return new Run(name).write(10, 20).due("commit(-1)", 0).due("put(2, 30)", 3).due("commit(0)", 1);
    }

    private static void afterQuestions(String call, int want) {
        Run run = begun("after 511 calls, most of them questions");
        while (run.calls() < 511) {
            run.due("find()", 1);
        }
        run.due(call, want);
    }

    private static void afterChanges(String call, int want) {
        Run run = begun("after 511 calls, most of them changes");
        if ((511 - run.calls()) % 2 == 1) {
            run.due("lines()", 3);
        }
        while (run.calls() < 511) {
            run.due("take(1)", 20).due("put(1, 20)", 3);
        }
        run.due(call, want);
    }

    private static void afterRefusedCalls(String call, int want) {
        Run run = begun("after 511 calls, most of them refused");
        while (run.calls() < 511) {
            run.due("commit(2)", -1);
        }
        run.due(call, want);
    }
}

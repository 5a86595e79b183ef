public final class Promise06CommitTest {
    public static void main(String[] args) {
        revisionHasTextAndParent();
        wrongParents();
        twelveAreHeld();
        fortyNumbersAreGiven();
        fortyNumbersWithNoneHeld();
        Run.end();
    }

    private static void revisionHasTextAndParent() {
        new Run("commit keeps the working text").write(1, 2).due("commit(-1)", 0).reads(1, 2)
            .due("put(2, 3)", 3).due("commit(0)", 1).reads(1, 2, 3)
            .due("commit(0)", 2).due("commit(-1)", 3)
            .due("parent(0)", -2).due("parent(1)", 0).due("parent(2)", 0).due("parent(3)", -2)
            .due("checkout(0)", 2).reads(1, 2).due("checkout(1)", 3).reads(1, 2, 3)
            .due("checkout(3)", 3).reads(1, 2, 3);
    }

    private static void wrongParents() {
        new Run("a parent that is not held").write(1)
            .refused("commit(0)").refused("commit(-2)").refused("commit(1)")
            .due("commit(-1)", 0)
            .refused("commit(1)").refused("commit(-2)").refused("commit(11)").refused("commit(12)")
            .refused("commit(39)").refused("commit(40)").refused("commit(41)")
            .refused("commit(2147483647)").refused("commit(-2147483648)")
            .due("commit(0)", 1).due("remove(0)", 1).refused("commit(0)").due("commit(1)", 2);
    }

    private static void twelveAreHeld() {
        Run run = new Run("twelve revisions are the most").write(4);
        for (int number = 0; number < 12; number++) {
            run.due("commit(-1)", number);
        }
        run.refused("commit(-1)").refused("commit(11)").refused("commit(12)")
            .due("remove(0)", 11).due("commit(11)", 12).refused("commit(12)").refused("commit(-1)")
            .due("remove(12)", 11).due("remove(5)", 10)
            .due("commit(-1)", 13).due("commit(13)", 14).refused("commit(14)");
    }

    private static void fortyNumbersAreGiven() {
        Run run = new Run("forty numbers, with twelve held");
        for (int number = 0; number < 40; number++) {
            if (number >= 12) {
                run.due("remove(" + (number - 12) + ")", 11);
            }
            run.write(number, 7).due("commit(" + (number - 1) + ")", number);
        }
        run.due("parent(39)", 38).due("remove(28)", 11).refused("commit(-1)").refused("commit(39)")
            .due("checkout(39)", 2).reads(39, 7).due("checkout(29)", 2).reads(29, 7).due("parent(29)", -2);
    }

    private static void fortyNumbersWithNoneHeld() {
        Run run = new Run("forty numbers, with none held");
        for (int number = 0; number < 40; number++) {
            run.due("commit(-1)", number).due("remove(" + number + ")", 0);
        }
        run.refused("commit(-1)").refused("commit(39)").refused("commit(40)").due("find()", -1);
    }
}

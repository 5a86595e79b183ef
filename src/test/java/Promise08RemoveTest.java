public final class Promise08RemoveTest {
    public static void main(String[] args) {
        childrenGetTheParent();
        childrenOfARoot();
        textsStay();
        countOfThoseHeld();
        wrongRevisions();
        Run.end();
    }

    private static void childrenGetTheParent() {
        new Run("several children")
            .due("commit(-1)", 0).due("commit(0)", 1).due("commit(1)", 2).due("commit(1)", 3)
            .due("commit(3)", 4).due("commit(0)", 5)
            .due("remove(1)", 5)
            .due("parent(0)", -2).due("parent(1)", -1).due("parent(2)", 0).due("parent(3)", 0)
            .due("parent(4)", 3).due("parent(5)", 0)
            .due("remove(3)", 4).due("parent(4)", 0);
        new Run("one after the other, from below and from above")
            .due("commit(-1)", 0).due("commit(0)", 1).due("commit(1)", 2).due("commit(2)", 3)
            .due("remove(2)", 3).due("remove(1)", 2).due("parent(3)", 0)
            .due("remove(0)", 1).due("parent(3)", -2).due("remove(3)", 0).due("parent(3)", -1);
    }

    private static void childrenOfARoot() {
        new Run("a revision without a parent")
            .due("commit(-1)", 0).due("commit(-1)", 1).due("commit(0)", 2).due("commit(0)", 3).due("commit(1)", 4)
            .due("remove(0)", 4).due("parent(2)", -2).due("parent(3)", -2).due("parent(4)", 1)
            .due("parent(1)", -2);
    }

    private static void textsStay() {
        new Run("texts stay, the working text too").write(1, 2).due("commit(-1)", 0)
            .write(1, 2, 3).due("commit(0)", 1).write(3).due("commit(1)", 2).write(7, 7)
            .due("remove(1)", 2).reads(7, 7).due("checkout(2)", 1).reads(3).due("checkout(0)", 2).reads(1, 2)
            .due("remove(0)", 1).reads(1, 2).due("checkout(2)", 1).reads(3);
    }

    private static void countOfThoseHeld() {
        Run run = new Run("from twelve to none");
        for (int number = 0; number < 12; number++) {
            run.due("commit(" + (number - 1) + ")", number);
        }
        for (int left = 11; left >= 0; left--) {
            run.due("remove(" + left + ")", left).due("remove(" + left + ")", -1);
        }
        run.due("commit(-1)", 12).due("remove(12)", 0);
    }

    private static void wrongRevisions() {
        new Run("what is not held").write(1).due("commit(-1)", 0).due("commit(0)", 1)
            .refused("remove(2)").refused("remove(-1)").refused("remove(-2)").refused("remove(12)")
            .refused("remove(39)").refused("remove(40)").refused("remove(41)")
            .refused("remove(2147483647)").refused("remove(-2147483648)")
            .due("remove(0)", 1).refused("remove(0)").due("remove(1)", 0).refused("remove(1)");
    }
}

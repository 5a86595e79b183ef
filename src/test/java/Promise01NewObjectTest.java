public final class Promise01NewObjectTest {
    public static void main(String[] args) {
        workingTextIsEmpty();
        noRevisionIsHeld();
        objectsShareNothing();
        Run.end();
    }

    private static void workingTextIsEmpty() {
        new Run("the working text is empty")
            .due("lines()", 0).due("line(0)", -1).due("take(0)", -1).due("lines()", 0);
    }

    private static void noRevisionIsHeld() {
        Run run = new Run("no revision is held").due("find()", -1);
        for (int number = -2; number <= 41; number++) {
            run.due("parent(" + number + ")", -1).due("checkout(" + number + ")", -1);
            run.due("remove(" + number + ")", -1).due("changed(" + number + ")", -1);
            run.due("distance(" + number + ", " + number + ")", -1).due("base(" + number + ", " + number + ")", -1);
        }
        new Run("the first number is 0 and its text is empty")
            .due("commit(-1)", 0).due("checkout(0)", 0).due("remove(0)", 0);
    }

    private static void objectsShareNothing() {
        Run first = new Run("the first of two objects").write(1, 2).due("commit(-1)", 0);
        new Run("the second of two objects").due("lines()", 0).due("parent(0)", -1).due("commit(-1)", 0);
        first.reads(1, 2).due("checkout(0)", 2).due("commit(0)", 1);
    }
}

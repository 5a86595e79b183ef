/** Above each test stands the sentence of the document that it tests. */
public final class Promise01NewObjectTest {
    public static void main(String[] args) {
        workingTextIsEmpty();
        noRevisionIsHeld();
        nothingWasGiven();
        objectsShareNothing();
        Run.end();
    }

    // "The working text is empty"
    private static void workingTextIsEmpty() {
        new Run("the working text is empty").due("lines()", 0)
            .refused("line(0)").refused("line(9)").refused("take(0)").refused("put(1, 5)").due("lines()", 0);
    }

    // "no revision is held"
    private static void noRevisionIsHeld() {
        Run run = new Run("no revision is held").due("find()", -1);
        for (int number = -2; number <= 41; number++) {
            run.due("parent(" + number + ")", -1).due("checkout(" + number + ")", -1);
            run.due("remove(" + number + ")", -1).due("changed(" + number + ")", -1);
            run.due("distance(" + number + ", " + number + ")", -1).due("base(" + number + ", " + number + ")", -1);
            run.due("commit(" + (number == -1 ? -2 : number) + ")", -1);
        }
    }

    // "no revision is held": all twelve and all forty are still to come
    private static void nothingWasGiven() {
        new Run("the first number is 0 and its text is empty")
            .due("commit(-1)", 0).due("checkout(0)", 0).due("remove(0)", 0);
        Run twelve = new Run("twelve revisions fit");
        for (int number = 0; number < 12; number++) {
            twelve.due("commit(-1)", number);
        }
        Run forty = new Run("forty numbers are left");
        for (int number = 0; number < 40; number++) {
            forty.due("commit(-1)", number).due("remove(" + number + ")", 0);
        }
        Run ten = new Run("ten lines fit");
        for (int lines = 1; lines <= 10; lines++) {
            ten.due("put(0, 1)", lines);
        }
    }

    // A new object is as described, also when others were made and used before it
    private static void objectsShareNothing() {
        Run first = new Run("the first of two objects").write(1, 2).due("commit(-1)", 0);
        Run second = new Run("the second of two objects").due("lines()", 0).due("parent(0)", -1)
            .write(8, 9, 8).due("commit(-1)", 0).due("commit(-1)", 1);
        first.reads(1, 2).due("commit(0)", 1).due("parent(1)", 0).due("distance(0, 1)", 0);
        second.reads(8, 9, 8).due("parent(1)", -2).due("remove(0)", 1).due("checkout(1)", 3).reads(8, 9, 8);
        first.due("parent(0)", -2).due("remove(1)", 1).due("checkout(0)", 2).reads(1, 2);
    }
}

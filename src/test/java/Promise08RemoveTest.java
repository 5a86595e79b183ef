import java.util.Arrays;

/** Above each test stands the sentence of the document that it tests. */
public final class Promise08RemoveTest {
    public static void main(String[] args) {
        revisionIsRemoved();
        childrenGetTheParent();
        everySmallTree();
        childrenOfARoot();
        noChildren();
        mostChildren();
        lastNumbers();
        everyNumber();
        textsStay();
        fromTwelveToNone();
        firstAndLastNumber();
        revisionTooSmall();
        revisionTooLarge();
        revisionRemoved();
        Run.end();
    }

    // "Removes the revision."
    private static void revisionIsRemoved() {
        new Run("what was removed is not held").write(1).due("commit(-1)", 0).due("commit(0)", 1).due("remove(1)", 1)
            .refused("parent(1)").refused("checkout(1)").refused("changed(1)").refused("distance(0, 1)")
            .refused("base(1, 0)").refused("commit(1)").refused("remove(1)").due("find()", 0)
            .due("remove(0)", 0).due("find()", -1);
    }

    // "Its children get its parent as their parent"
    private static void childrenGetTheParent() {
        new Run("several children")
            .due("commit(-1)", 0).due("commit(0)", 1).due("commit(1)", 2).due("commit(1)", 3)
            .due("commit(3)", 4).due("commit(0)", 5)
            .due("remove(1)", 5)
            .due("parent(0)", -2).due("parent(1)", -1).due("parent(2)", 0).due("parent(3)", 0)
            .due("parent(4)", 3).due("parent(5)", 0)
            .due("remove(3)", 4).due("parent(4)", 0);
        new Run("one after the other, from below and from above")
            .due("commit(-1)", 0).due("commit(0)", 1).due("commit(1)", 2).due("commit(2)", 3)
            .due("remove(2)", 3).due("parent(3)", 1).due("remove(1)", 2).due("parent(3)", 0)
            .due("remove(0)", 1).due("parent(3)", -2).due("remove(3)", 0).due("parent(3)", -1);
    }

    // "Its children get its parent as their parent": and no other revision does
    private static void everySmallTree() {
        for (int[] parents : Forests.of(5)) {
            for (int removed = 0; removed < parents.length; removed++) {
                Run run = new Run("parents " + Arrays.toString(parents) + " without " + removed);
                for (int number = 0; number < parents.length; number++) {
                    run.due("commit(" + parents[number] + ")", number);
                }
                run.due("remove(" + removed + ")", parents.length - 1);
                int[] left = Forests.without(parents, removed);
                for (int number = 0; number < parents.length; number++) {
                    int due = number == removed ? -1 : left[number] < 0 ? -2 : left[number];
                    run.due("parent(" + number + ")", due);
                }
            }
        }
    }

    // "(or none if it has none)"
    private static void childrenOfARoot() {
        new Run("a revision without a parent")
            .due("commit(-1)", 0).due("commit(-1)", 1).due("commit(0)", 2).due("commit(0)", 3).due("commit(1)", 4)
            .due("remove(0)", 4).due("parent(2)", -2).due("parent(3)", -2).due("parent(4)", 1)
            .due("parent(1)", -2).due("base(2, 3)", -2).due("remove(1)", 3).due("parent(4)", -2);
        new Run("the first two numbers").due("commit(-1)", 0).due("commit(0)", 1)
            .due("remove(0)", 1).due("parent(1)", -2);
    }

    // "Its children": there may be none
    private static void noChildren() {
        new Run("a revision without children").due("commit(-1)", 0).due("commit(0)", 1).due("commit(0)", 2)
            .due("remove(2)", 2).due("parent(0)", -2).due("parent(1)", 0)
            .due("remove(1)", 1).due("parent(0)", -2);
    }

    // "Its children": all others that can be held but their next parent
    private static void mostChildren() {
        Run run = new Run("ten children and a parent").due("commit(-1)", 0).due("commit(0)", 1);
        for (int child = 2; child < 12; child++) {
            run.due("commit(1)", child);
        }
        run.due("remove(1)", 11);
        for (int child = 2; child < 12; child++) {
            run.due("parent(" + child + ")", 0);
        }
        run.due("commit(0)", 12).due("remove(0)", 11);
        for (int child = 2; child < 13; child++) {
            run.due("parent(" + child + ")", -2);
        }
    }

    // "Its children get its parent": with the last numbers that can be given
    private static void lastNumbers() {
        Run run = new Run("the last number as child and as revision removed").due("commit(-1)", 0);
        for (int number = 1; number < 38; number++) {
            run.due("commit(0)", number).due("remove(" + number + ")", 1);
        }
        run.due("commit(0)", 38).due("commit(38)", 39).due("remove(38)", 2).due("parent(39)", 0)
            .due("remove(39)", 1).due("parent(0)", -2).due("remove(0)", 0);
    }

    // "Its children get its parent": whichever of the forty they are
    private static void everyNumber() {
        Run run = new Run("numbers 0 to 39").due("commit(-1)", 0).due("commit(0)", 1);
        for (int number = 2; number < 40; number++) {
            run.due("commit(" + (number - 1) + ")", number).due("parent(" + number + ")", number - 1);
            run.due("remove(" + (number - 1) + ")", 2).due("parent(" + number + ")", 0);
        }
        run.due("remove(0)", 1).due("parent(39)", -2);
    }

    // "their texts stay as they are"
    private static void textsStay() {
        new Run("texts stay, the working text too").write(1, 2).due("commit(-1)", 0)
            .write(1, 2, 3).due("commit(0)", 1).write(3).due("commit(1)", 2).write(7, 7)
            .due("remove(1)", 2).reads(7, 7).due("checkout(2)", 1).reads(3).due("checkout(0)", 2).reads(1, 2)
            .due("remove(0)", 1).reads(1, 2).due("checkout(2)", 1).reads(3);
        new Run("empty and full texts stay").write(1, 2, 3, 4, 5, 6, 7, 8, 9, 10).due("commit(-1)", 0)
            .due("commit(0)", 1).write().due("commit(0)", 2).due("remove(0)", 2)
            .due("checkout(1)", 10).reads(1, 2, 3, 4, 5, 6, 7, 8, 9, 10).due("checkout(2)", 0).reads();
    }

    // "Answers how many revisions are held then": from full to empty
    private static void fromTwelveToNone() {
        Run run = new Run("from twelve to none");
        for (int number = 0; number < 12; number++) {
            run.due("commit(" + (number - 1) + ")", number);
        }
        for (int left = 11; left >= 0; left--) {
            run.due("remove(" + left + ")", left).due("remove(" + left + ")", -1);
        }
        run.due("commit(-1)", 12).due("remove(12)", 0);
    }

    // "Answers how many revisions are held then": for the first and the last number
    private static void firstAndLastNumber() {
        Run run = new Run("numbers 0 and 39").due("commit(-1)", 0);
        for (int number = 1; number < 40; number++) {
            run.due("commit(-1)", number).due("remove(" + (number - 1) + ")", 1);
        }
        run.refused("remove(0)").refused("remove(38)").refused("remove(40)").due("remove(39)", 0)
            .refused("remove(39)");
    }

    private static Run twoHeld(String name) {
        return new Run(name).write(1).due("commit(-1)", 0).due("commit(0)", 1);
    }

    // "or -1": too small
    private static void revisionTooSmall() {
        twoHeld("revision too small").refused("remove(-1)").refused("remove(-2)").refused("remove(-3)")
            .refused("remove(-2147483648)").due("parent(0)", -2).due("parent(1)", 0);
    }

    // "or -1": too large, and none made yet
    private static void revisionTooLarge() {
        twoHeld("revision too large").refused("remove(2)").refused("remove(11)").refused("remove(12)")
            .refused("remove(39)").refused("remove(40)").refused("remove(41)").refused("remove(2147483647)");
        new Run("none made yet").refused("remove(0)").due("commit(-1)", 0).due("remove(0)", 0);
    }

    // "or -1": removed already
    private static void revisionRemoved() {
        twoHeld("revision removed").due("remove(0)", 1).refused("remove(0)").due("remove(1)", 0)
            .refused("remove(1)").refused("remove(0)");
    }
}

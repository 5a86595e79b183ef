import java.util.Arrays;

/** Above each test stands the sentence of the document that it tests. */
public final class Promise09ParentTest {
    public static void main(String[] args) {
        parentsOfATree();
        parentIsNumberZero();
        none();
        noneAfterRemove();
        lastNumber();
        everyNumber();
        revisionTooSmall();
        revisionTooLarge();
        revisionRemoved();
        everySmallTree();
        asksOnly();
        Run.end();
    }

    // "The parent of the revision"
    private static void parentsOfATree() {
        new Run("parents of a tree")
            .due("commit(-1)", 0).due("commit(0)", 1).due("commit(0)", 2).due("commit(2)", 3).due("commit(-1)", 4)
            .due("parent(0)", -2).due("parent(1)", 0).due("parent(2)", 0).due("parent(3)", 2).due("parent(4)", -2);
    }

    // "The parent of the revision": the least number is a parent, not none
    private static void parentIsNumberZero() {
        new Run("the parent is 0").due("commit(-1)", 0).due("commit(0)", 1).due("parent(1)", 0);
    }

    // "-2 if it has none"
    private static void none() {
        new Run("no parent").due("commit(-1)", 0).due("parent(0)", -2)
            .due("commit(-1)", 1).due("commit(1)", 2).due("parent(1)", -2).due("parent(0)", -2);
    }

    // "-2 if it has none": any more
    private static void noneAfterRemove() {
        new Run("no parent any more").due("commit(-1)", 0).due("commit(0)", 1).due("commit(1)", 2)
            .due("remove(0)", 2).due("parent(1)", -2).due("parent(2)", 1)
            .due("remove(1)", 1).due("parent(2)", -2);
    }

    // "The parent of the revision": the last that can be made, as child and as parent
    private static void lastNumber() {
        Run run = new Run("the last numbers");
        for (int number = 0; number < 38; number++) {
            run.due("commit(-1)", number).due("remove(" + number + ")", 0);
        }
        run.due("commit(-1)", 38).due("commit(38)", 39).due("parent(39)", 38).due("parent(38)", -2)
            .refused("parent(37)").refused("parent(0)").refused("parent(40)")
            .due("remove(38)", 1).due("parent(39)", -2);
    }

    // "The parent of the revision; -2 if it has none": whichever of the forty they are
    private static void everyNumber() {
        Run run = new Run("numbers 0 to 39").due("commit(-1)", 0).due("parent(0)", -2);
        for (int number = 1; number < 40; number++) {
            run.due("commit(" + (number - 1) + ")", number).due("parent(" + number + ")", number - 1);
            run.due("remove(" + (number - 1) + ")", 1).due("parent(" + number + ")", -2);
            run.due("parent(" + (number - 1) + ")", -1);
        }
    }

    private static Run twoHeld(String name) {
        return new Run(name).write(1).due("commit(-1)", 0).due("commit(0)", 1);
    }

    // "-1 if it is not held": too small
    private static void revisionTooSmall() {
        twoHeld("revision too small").refused("parent(-1)").refused("parent(-2)").refused("parent(-3)")
            .refused("parent(-2147483648)");
    }

    // "-1 if it is not held": too large, and none made yet
    private static void revisionTooLarge() {
        twoHeld("revision too large").refused("parent(2)").refused("parent(11)").refused("parent(12)")
            .refused("parent(39)").refused("parent(40)").refused("parent(41)").refused("parent(2147483647)");
        new Run("none made yet").refused("parent(0)").refused("parent(-1)");
    }

    // "-1 if it is not held": removed, with and without a parent
    private static void revisionRemoved() {
        new Run("revision removed").due("commit(-1)", 0).due("commit(0)", 1).due("remove(1)", 1)
            .refused("parent(1)").due("commit(0)", 2).refused("parent(1)").due("parent(2)", 0)
            .due("remove(0)", 1).refused("parent(0)").refused("parent(1)").due("parent(2)", -2);
    }

    // "The parent of the revision; -2 if it has none": whichever it is
    private static void everySmallTree() {
        for (int[] parents : Forests.of(5)) {
            Run run = new Run("parents " + Arrays.toString(parents));
            for (int number = 0; number < parents.length; number++) {
                run.due("commit(" + parents[number] + ")", number);
            }
            for (int number = 0; number < parents.length; number++) {
                run.due("parent(" + number + ")", parents[number] < 0 ? -2 : parents[number]);
            }
        }
    }

    // "Nothing is promised beyond the answers and state changes described above": this call has none
    private static void asksOnly() {
        twoHeld("parent changes nothing").due("commit(1)", 2).due("put(0, 2)", 2)
            .asked("parent(0)", -2).asked("parent(1)", 0).asked("parent(2)", 1).asked("parent(2)", 1);
    }
}

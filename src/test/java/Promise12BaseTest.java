import java.util.Arrays;
import java.util.List;

/** Above each test stands the sentence of the document that it tests. */
public final class Promise12BaseTest {
    public static void main(String[] args) {
        forebearsInATree();
        sameRevisionTwice();
        oneIsForebearOfTheOther();
        standsFirst();
        separateTrees();
        afterRemove();
        rowOfTwelve();
        longRowsThatMeetAtTheRoot();
        longRowsThatDoNotMeet();
        lastNumbers();
        everyNumber();
        firstNotHeld();
        secondNotHeld();
        bothNotHeld();
        oneRemoved();
        everySmallTree();
        asksOnly();
        Run.end();
    }

    // 0 has the children 1 and 2; 1 has 3 and 4; 2 has 5; 5 has 6.
    private static Run tree(String name) {
        return new Run(name).due("commit(-1)", 0).due("commit(0)", 1).due("commit(0)", 2)
            .due("commit(1)", 3).due("commit(1)", 4).due("commit(2)", 5).due("commit(5)", 6);
    }

    // "The last common forebear of two revisions"
    private static void forebearsInATree() {
        tree("forebears in a tree")
            .due("base(3, 4)", 1).due("base(4, 3)", 1).due("base(3, 6)", 0).due("base(6, 3)", 0).due("base(1, 2)", 0);
    }

    // "of the revisions that are a, the parent of a [...] and in the same way for b": a may be b
    private static void sameRevisionTwice() {
        tree("a revision and itself")
            .due("base(0, 0)", 0).due("base(1, 1)", 1).due("base(4, 4)", 4).due("base(6, 6)", 6);
        new Run("a single revision and itself").due("commit(-1)", 0).due("base(0, 0)", 0);
    }

    // "of the revisions that are a, the parent of a": a itself is in its row
    private static void oneIsForebearOfTheOther() {
        tree("one is a forebear of the other")
            .due("base(6, 2)", 2).due("base(2, 6)", 2).due("base(5, 6)", 5).due("base(6, 5)", 5)
            .due("base(0, 6)", 0).due("base(6, 0)", 0);
    }

    // "the one that is in both rows and stands first in that of a"
    private static void standsFirst() {
        new Run("of several common forebears the first").due("commit(-1)", 0).due("commit(0)", 1).due("commit(1)", 2)
            .due("commit(2)", 3).due("commit(2)", 4).due("base(3, 4)", 2).due("base(4, 3)", 2)
            .due("base(3, 1)", 1).due("base(1, 4)", 1);
    }

    // "-2 if there is none"
    private static void separateTrees() {
        tree("two trees").due("commit(-1)", 7).due("commit(7)", 8)
            .due("base(8, 3)", -2).due("base(3, 8)", -2).due("base(7, 0)", -2).due("base(0, 7)", -2)
            .due("base(8, 7)", 7).due("base(7, 8)", 7).due("base(8, 8)", 8);
    }

    // "-2 if there is none": any more
    private static void afterRemove() {
        tree("removed revisions leave the rows")
            .due("remove(1)", 6).due("base(3, 4)", 0).due("base(3, 5)", 0)
            .due("remove(5)", 5).due("base(6, 2)", 2).due("base(2, 6)", 2)
            .due("remove(0)", 4).due("base(3, 4)", -2).due("base(4, 6)", -2).due("base(6, 2)", 2)
            .due("base(0, 3)", -1);
    }

    // "and so on": as far as it can go
    private static void rowOfTwelve() {
        Run chain = new Run("a row of twelve");
        for (int number = 0; number < 12; number++) {
            chain.due("commit(" + (number - 1) + ")", number);
        }
        chain.due("base(11, 0)", 0).due("base(0, 11)", 0).due("base(11, 11)", 11).due("base(10, 11)", 10);
    }

    // "and so on": as far as it can go without meeting earlier
    private static void longRowsThatMeetAtTheRoot() {
        Run fork = new Run("two rows that meet at the root only").due("commit(-1)", 0).due("commit(0)", 1);
        fork.due("commit(0)", 2);
        for (int number = 3; number < 12; number++) {
            fork.due("commit(" + (number - 1) + ")", number);
        }
        fork.due("base(1, 11)", 0).due("base(11, 1)", 0);
    }

    // "-2 if there is none": at the end of the longest row
    private static void longRowsThatDoNotMeet() {
        Run apart = new Run("a row of eleven and one apart").due("commit(-1)", 0).due("commit(-1)", 1);
        for (int number = 2; number < 12; number++) {
            apart.due("commit(" + (number - 1) + ")", number);
        }
        apart.due("base(0, 11)", -2).due("base(11, 0)", -2).due("base(1, 11)", 1);
    }

    // "The last common forebear of two revisions": with the first and the last numbers
    private static void lastNumbers() {
        Run run = new Run("numbers 0, 38 and 39").due("commit(-1)", 0);
        for (int number = 1; number < 38; number++) {
            run.due("commit(0)", number).due("remove(" + number + ")", 1);
        }
        run.due("commit(0)", 38).due("commit(0)", 39).due("base(38, 39)", 0).due("base(39, 38)", 0)
            .due("base(39, 39)", 39).due("base(0, 39)", 0).refused("base(39, 40)").refused("base(37, 39)")
            .due("remove(0)", 2).due("base(38, 39)", -2);
    }

    // "The last common forebear of two revisions": whichever of the forty they are
    private static void everyNumber() {
        Run run = new Run("numbers 0 to 39").due("commit(-1)", 0).due("base(0, 0)", 0);
        for (int number = 1; number < 40; number++) {
            run.due("commit(0)", number).due("base(" + number + ", 0)", 0).due("base(0, " + number + ")", 0);
            run.due("base(" + number + ", " + number + ")", number).due("remove(" + number + ")", 1);
        }
    }

    private static Run twoHeld(String name) {
        return new Run(name).due("commit(-1)", 0).due("commit(0)", 1);
    }

    // "-1 if one is not held": the first of the two
    private static void firstNotHeld() {
        twoHeld("the first is not held").refused("base(2, 0)").refused("base(39, 0)").refused("base(40, 0)")
            .refused("base(41, 1)").refused("base(2147483647, 1)")
            .refused("base(-1, 0)").refused("base(-2, 0)").refused("base(-2147483648, 1)");
    }

    // "-1 if one is not held": the second of the two
    private static void secondNotHeld() {
        twoHeld("the second is not held").refused("base(0, 2)").refused("base(0, 39)").refused("base(0, 40)")
            .refused("base(1, 41)").refused("base(1, 2147483647)")
            .refused("base(0, -1)").refused("base(0, -2)").refused("base(1, -2147483648)");
    }

    // "-1 if one is not held": both, also if both are the same number
    private static void bothNotHeld() {
        twoHeld("both are not held").refused("base(2, 2)").refused("base(2, 3)").refused("base(-1, -1)")
            .refused("base(-2, -2)").refused("base(39, 39)").refused("base(40, 40)").refused("base(-2, 40)");
        new Run("none made yet").refused("base(0, 0)").refused("base(-1, -1)").refused("base(-2, -2)");
    }

    // "-1 if one is not held": held no more
    private static void oneRemoved() {
        twoHeld("the child was removed").due("remove(1)", 1).refused("base(1, 0)").refused("base(0, 1)")
            .refused("base(1, 1)").due("base(0, 0)", 0);
        twoHeld("the parent was removed").due("remove(0)", 1).refused("base(1, 0)").refused("base(0, 1)")
            .refused("base(0, 0)").due("base(1, 1)", 1);
    }

    // "the one that is in both rows and stands first in that of a. -2 if there is none"
    private static void everySmallTree() {
        for (int[] parents : Forests.of(5)) {
            Run run = new Run("parents " + Arrays.toString(parents));
            for (int number = 0; number < parents.length; number++) {
                run.due("commit(" + parents[number] + ")", number);
            }
            for (int a = 0; a < parents.length; a++) {
                for (int b = 0; b < parents.length; b++) {
                    List<Integer> both = Forests.row(parents, a);
                    both.retainAll(Forests.row(parents, b));
                    run.due("base(" + a + ", " + b + ")", both.isEmpty() ? -2 : both.get(0));
                }
            }
        }
    }

    // "Nothing is promised beyond the answers and state changes described above": this call has none
    private static void asksOnly() {
        new Run("base changes nothing").write(1, 2).due("commit(-1)", 0).due("commit(0)", 1).due("put(0, 3)", 3)
            .due("commit(0)", 2).due("commit(-1)", 3).due("put(0, 4)", 4)
            .asked("base(1, 2)", 0).asked("base(2, 0)", 0).asked("base(2, 2)", 2)
            .asked("base(3, 2)", -2).asked("base(2, 3)", -2).asked("base(1, 2)", 0);
    }
}

import java.util.Arrays;

/** Above each test stands the sentence of the document that it tests. */
public final class Promise06CommitTest {
    public static void main(String[] args) {
        revisionHasTextAndParent();
        everySmallTree();
        twelveTextsAndParents();
        emptyAndFullText();
        parentMinusOne();
        parentTooSmall();
        parentTooLarge();
        parentRemoved();
        twelveAreHeld();
        fortyNumbersAreGiven();
        fortyNumbersWithNoneHeld();
        answersItsNumber();
        Run.end();
    }

    // "Makes a revision with the working text and the parent"
    private static void revisionHasTextAndParent() {
        new Run("commit keeps the working text").write(1, 2).due("commit(-1)", 0).reads(1, 2)
            .due("put(2, 3)", 3).due("commit(0)", 1).reads(1, 2, 3)
            .due("commit(0)", 2).due("commit(-1)", 3)
            .due("parent(0)", -2).due("parent(1)", 0).due("parent(2)", 0).due("parent(3)", -2)
            .due("checkout(0)", 2).reads(1, 2).due("checkout(1)", 3).reads(1, 2, 3)
            .due("checkout(3)", 3).reads(1, 2, 3);
    }

    // "with the working text and the parent": whichever they are
    private static void everySmallTree() {
        for (int[] parents : Forests.of(4)) {
            Run run = new Run("parents " + Arrays.toString(parents));
            for (int number = 0; number < parents.length; number++) {
                run.write(Texts.count(number * 3)).due("commit(" + parents[number] + ")", number)
                    .reads(Texts.count(number * 3));
            }
            for (int number = 0; number < parents.length; number++) {
                run.due("parent(" + number + ")", parents[number] < 0 ? -2 : parents[number]);
                run.due("checkout(" + number + ")", number * 3).reads(Texts.count(number * 3));
            }
        }
    }

    // "with the working text and the parent": each of twelve has its own
    private static void twelveTextsAndParents() {
        Run run = new Run("twelve with their own texts");
        for (int number = 0; number < 12; number++) {
            run.write(number, 100 + number).due("commit(" + (number / 2 - 1) + ")", number).reads(number, 100 + number);
        }
        for (int number = 0; number < 12; number++) {
            run.due("parent(" + number + ")", number < 2 ? -2 : number / 2 - 1);
            run.due("checkout(" + number + ")", 2).reads(number, 100 + number);
        }
    }

    // "Makes a revision with the working text": of 0 and of 10 lines
    private static void emptyAndFullText() {
        new Run("an empty text, then a full one").due("commit(-1)", 0)
            .write(0, 1, 2, 3, 4, 5, 6, 7, 8, 255).due("commit(0)", 1)
            .write(9).due("checkout(0)", 0).reads().due("checkout(1)", 10).reads(0, 1, 2, 3, 4, 5, 6, 7, 8, 255);
    }

    // "parent -1 means none"
    private static void parentMinusOne() {
        new Run("parent -1, with none held").due("commit(-1)", 0).due("parent(0)", -2);
        new Run("parent -1, with others held").due("commit(-1)", 0).due("commit(-1)", 1).due("commit(1)", 2)
            .due("commit(-1)", 3).due("parent(1)", -2).due("parent(3)", -2).due("base(3, 2)", -2)
            .due("parent(0)", -2).due("parent(2)", 1);
    }

    // "Answers -1 and changes nothing if parent is not -1 and not held": too small
    private static void parentTooSmall() {
        new Run("parent too small, with none held").write(1).refused("commit(-2)").refused("commit(-2147483648)");
        new Run("parent too small").write(1).due("commit(-1)", 0)
            .refused("commit(-2)").refused("commit(-3)").refused("commit(-40)").refused("commit(-2147483648)")
            .due("commit(0)", 1);
    }

    // "Answers -1 and changes nothing if parent is not -1 and not held": too large
    private static void parentTooLarge() {
        new Run("parent too large, with none held").write(1).refused("commit(0)").refused("commit(1)")
            .due("commit(-1)", 0);
        new Run("parent too large").write(1).due("commit(-1)", 0)
            .refused("commit(1)").refused("commit(2)").refused("commit(11)").refused("commit(12)")
            .refused("commit(39)").refused("commit(40)").refused("commit(41)").refused("commit(2147483647)")
            .due("commit(0)", 1);
    }

    // "Answers -1 and changes nothing if parent is not -1 and not held": held no more
    private static void parentRemoved() {
        new Run("parent removed").write(1).due("commit(-1)", 0).due("commit(0)", 1).due("remove(0)", 1)
            .refused("commit(0)").due("commit(1)", 2).due("remove(2)", 1).refused("commit(2)").due("commit(1)", 3);
    }

    // "Answers -1 and changes nothing if [...] 12 revisions are held"
    private static void twelveAreHeld() {
        Run run = new Run("twelve revisions are the most").write(4);
        for (int number = 0; number < 12; number++) {
            run.due("commit(-1)", number);
        }
        run.refused("commit(-1)").refused("commit(0)").refused("commit(11)").refused("commit(12)")
            .due("remove(0)", 11).due("commit(11)", 12).refused("commit(12)").refused("commit(-1)")
            .due("remove(12)", 11).due("remove(5)", 10)
            .due("commit(-1)", 13).due("commit(13)", 14).refused("commit(14)").reads(4);
    }

    // "Answers -1 and changes nothing if [...] 40 numbers have been given"
    private static void fortyNumbersAreGiven() {
        Run run = new Run("forty numbers, with twelve held");
        for (int number = 0; number < 40; number++) {
            if (number >= 12) {
                run.due("remove(" + (number - 12) + ")", 11);
            }
            run.write(number, 7).due("commit(" + (number - 1) + ")", number);
        }
        run.due("parent(39)", 38).due("remove(28)", 11).refused("commit(-1)").refused("commit(39)")
            .due("checkout(39)", 2).reads(39, 7).due("checkout(29)", 2).reads(29, 7).due("parent(29)", -2);
    }

    // "Answers -1 and changes nothing if [...] 40 numbers have been given": none of them held
    private static void fortyNumbersWithNoneHeld() {
        Run run = new Run("forty numbers, with none held");
        for (int number = 0; number < 40; number++) {
            run.due("commit(-1)", number).due("remove(" + number + ")", 0);
        }
        run.refused("commit(-1)").refused("commit(39)").refused("commit(40)").due("find()", -1);
    }

    // "Otherwise answers its number.": from the first to the last
    private static void answersItsNumber() {
        Run run = new Run("numbers 0 to 39");
        for (int number = 0; number < 40; number++) {
            run.due("commit(" + (number - 1) + ")", number).due("parent(" + number + ")", number == 0 ? -2 : number - 1);
            if (number > 0) {
                run.due("remove(" + (number - 1) + ")", 1);
            }
        }
        run.due("parent(39)", -2).due("changed(39)", 0);
    }
}

/** The sentences of "Terms" that name a boundary case; above each test stands its sentence. */
public final class TermsTest {
    public static void main(String[] args) {
        textOfNoLines();
        textOfTenLines();
        leastAndGreatestLine();
        workingTextAtTheStart();
        twelveRevisions();
        textNeverChanges();
        parentIsAnotherRevision();
        parentIsNone();
        numbersFromZeroOn();
        refusedCommitGivesNoNumber();
        numbersNeverGivenTwice();
        fortyNumbersWithNoneHeld();
        fortyNumbersWithTwelveHeld();
        noChildren();
        elevenChildren();
        manyChildrenOneAfterTheOther();
        distanceOfTexts();
        revisionsThatAreNotHeld();
        noRevisionHeldAtAll();
        Run.end();
    }

    // "A TEXT is a row of 0 to 10 LINES"
    private static void textOfNoLines() {
        new Run("a text of no lines").due("commit(-1)", 0).write(4, 5).due("commit(0)", 1)
            .due("checkout(0)", 0).reads().due("find()", 0).due("changed(0)", 0).due("changed(1)", 2)
            .due("distance(0, 1)", 2).due("distance(0, 0)", 0)
            .refused("take(0)").refused("line(0)");
    }

    // "A TEXT is a row of 0 to 10 LINES"
    private static void textOfTenLines() {
        new Run("a text of ten lines").write(11, 12, 13, 14, 15, 16, 17, 18, 19, 20).due("commit(-1)", 0)
            .refused("put(10, 21)").refused("put(0, 21)")
            .write().due("commit(0)", 1).due("changed(0)", 10)
            .due("checkout(0)", 10).reads(11, 12, 13, 14, 15, 16, 17, 18, 19, 20)
            .refused("put(10, 21)").refused("put(0, 21)")
            .due("find()", 0).due("changed(0)", 0).due("distance(0, 1)", 10).due("distance(0, 0)", 0);
    }

    // "a line is a whole number from 0 to 255"
    private static void leastAndGreatestLine() {
        new Run("lines 0 and 255").due("put(0, 255)", 1).due("put(0, 0)", 2).reads(0, 255)
            .refused("put(0, -1)").refused("put(0, 256)")
            .due("commit(-1)", 0).due("take(1)", 255).due("take(0)", 0)
            .due("checkout(0)", 2).reads(0, 255).due("find()", 0)
            .write(255, 0).due("find()", -1).due("changed(0)", 2);
    }

    // "The object has one WORKING TEXT, empty at the start"
    private static void workingTextAtTheStart() {
        new Run("empty at the start").due("lines()", 0).refused("line(0)").refused("take(0)")
            .due("commit(-1)", 0).due("checkout(0)", 0);
        new Run("one working text, whatever was committed before").write(1).due("commit(-1)", 0)
            .due("put(1, 2)", 2).due("commit(0)", 1).reads(1, 2);
    }

    // "and at most 12 REVISIONS"
    private static void twelveRevisions() {
        Run run = new Run("twelve revisions, not thirteen").write(6);
        for (int number = 0; number < 12; number++) {
            run.due("commit(-1)", number);
        }
        for (int number = 0; number < 12; number++) {
            run.due("parent(" + number + ")", -2);
        }
        run.refused("commit(-1)").refused("commit(0)").refused("parent(12)").due("remove(7)", 11)
            .due("commit(-1)", 12).refused("commit(-1)").due("parent(12)", -2);
    }

    // "A revision has [...] a text that never changes"
    private static void textNeverChanges() {
        new Run("a text never changes").write(1, 2, 3, 4, 5, 6, 7, 8, 9, 10).due("commit(-1)", 0)
            .due("take(0)", 1).due("put(9, 99)", 10).due("take(4)", 6).due("commit(0)", 1)
            .due("checkout(0)", 10).reads(1, 2, 3, 4, 5, 6, 7, 8, 9, 10)
            .due("take(9)", 10).due("put(0, 50)", 10).due("commit(1)", 2)
            .due("checkout(1)", 9).reads(2, 3, 4, 5, 7, 8, 9, 10, 99)
            .due("remove(1)", 2).due("checkout(0)", 10).reads(1, 2, 3, 4, 5, 6, 7, 8, 9, 10)
            .write().due("commit(0)", 3).due("checkout(2)", 10).reads(50, 1, 2, 3, 4, 5, 6, 7, 8, 9);
    }

    // "a PARENT: another revision or none"
    private static void parentIsAnotherRevision() {
        new Run("not the revision itself, which is not held before it is made").refused("commit(0)")
            .due("commit(-1)", 0).refused("commit(1)").due("commit(0)", 1).refused("commit(2)");
        new Run("not the revision itself when its parent goes").due("commit(-1)", 0).due("commit(0)", 1)
            .due("commit(1)", 2).due("remove(1)", 2).due("parent(2)", 0).due("parent(0)", -2);
    }

    // "a PARENT: another revision or none"
    private static void parentIsNone() {
        new Run("a parent or none").due("commit(-1)", 0).due("commit(-1)", 1).due("commit(1)", 2)
            .due("parent(0)", -2).due("parent(1)", -2).due("parent(2)", 1);
    }

    // "Numbers are given from 0 on, the next greater one to each new revision"
    private static void numbersFromZeroOn() {
        new Run("from 0 on").due("commit(-1)", 0).due("commit(-1)", 1).due("commit(0)", 2).due("remove(1)", 2)
            .due("commit(0)", 3).due("commit(3)", 4);
    }

    // "Numbers are given [...] the next greater one to each new revision": a refused call makes none
    private static void refusedCommitGivesNoNumber() {
        Run run = new Run("a refused commit gives no number").refused("commit(7)").due("commit(-1)", 0);
        run.refused("commit(-2)").due("commit(-1)", 1);
        for (int number = 2; number < 12; number++) {
            run.due("commit(-1)", number);
        }
        run.refused("commit(-1)").refused("commit(3)").due("remove(3)", 11).due("commit(-1)", 12);
    }

    // "and are never given twice"
    private static void numbersNeverGivenTwice() {
        new Run("never twice, also when the greatest is removed").due("commit(-1)", 0).due("commit(0)", 1)
            .due("remove(1)", 1).due("commit(0)", 2).refused("parent(1)").due("parent(2)", 0);
        new Run("never twice, also when all are removed").due("commit(-1)", 0).due("commit(0)", 1)
            .due("remove(0)", 1).due("remove(1)", 0).due("commit(-1)", 2)
            .refused("parent(0)").refused("parent(1)").due("parent(2)", -2);
    }

    // "when 40 numbers have been given, no revision can be made any more"
    private static void fortyNumbersWithNoneHeld() {
        Run run = new Run("forty numbers given, none held").write(3);
        for (int number = 0; number < 40; number++) {
            run.due("commit(-1)", number).due("remove(" + number + ")", 0);
        }
        run.refused("commit(-1)").refused("commit(39)").refused("commit(40)").refused("commit(0)")
            .due("put(0, 2)", 2).refused("commit(-1)").reads(2, 3);
    }

    // "when 40 numbers have been given, no revision can be made any more"
    private static void fortyNumbersWithTwelveHeld() {
        Run run = new Run("forty numbers given, twelve held").write(3);
        for (int number = 0; number < 40; number++) {
            run.due("commit(" + (number - 1) + ")", number);
            if (number >= 11 && number < 39) {
                run.due("remove(" + (number - 11) + ")", 11);
            }
        }
        run.refused("commit(-1)").refused("commit(39)").due("remove(28)", 11)
            .refused("commit(-1)").refused("commit(39)").due("parent(29)", -2).due("parent(39)", 38)
            .due("checkout(39)", 1).reads(3).due("base(39, 29)", 29).due("find()", 29);
    }

    // "Some revision may have any number of CHILDREN": the least
    private static void noChildren() {
        new Run("no children").due("commit(-1)", 0).due("commit(0)", 1).due("commit(0)", 2)
            .due("remove(1)", 2).due("parent(0)", -2).due("parent(2)", 0);
    }

    // "Some revision may have any number of CHILDREN": the most that can be held beside it
    private static void elevenChildren() {
        Run run = new Run("eleven children").due("commit(-1)", 0);
        for (int child = 1; child < 12; child++) {
            run.due("commit(0)", child);
        }
        for (int child = 1; child < 12; child++) {
            run.due("parent(" + child + ")", 0).due("base(" + child + ", " + (12 - child) + ")", child == 6 ? 6 : 0);
        }
        run.due("remove(0)", 11);
        for (int child = 1; child < 12; child++) {
            run.due("parent(" + child + ")", -2);
        }
        run.due("base(1, 11)", -2);
    }

    // "Some revision may have any number of CHILDREN": the most that can be made
    private static void manyChildrenOneAfterTheOther() {
        Run run = new Run("thirty-nine children, one after the other").due("commit(-1)", 0);
        for (int child = 1; child < 40; child++) {
            run.due("commit(0)", child).due("parent(" + child + ")", 0);
            if (child < 39) {
                run.due("remove(" + child + ")", 1);
            }
        }
        run.due("base(39, 0)", 0).due("remove(0)", 1).due("parent(39)", -2);
    }

    // "The DISTANCE of two texts is the least number of lines [...]"
    private static void distanceOfTexts() {
        int[] none = {};
        int[] full = {1, 2, 3, 4, 5, 6, 7, 8, 9, 10};
        distance("nothing to do between empty texts", 0, none, none);
        distance("nothing to do between full texts", 0, full, full);
        distance("each line put in counts one", 10, none, full);
        distance("each line taken out counts one", 10, full, none);
        distance("every line out and every line in", 20, full, new int[] {11, 12, 13, 14, 15, 16, 17, 18, 19, 20});
        distance("another line is one out and one in", 2, new int[] {1, 2, 3}, new int[] {1, 0, 3});
        distance("all other lines stay in their order", 2, new int[] {1, 2}, new int[] {2, 1});
        distance("the first line goes to the end of a full text", 2, full, new int[] {2, 3, 4, 5, 6, 7, 8, 9, 10, 1});
        distance("a full text is turned round", 18, full, new int[] {10, 9, 8, 7, 6, 5, 4, 3, 2, 1});
        distance("each of equal lines counts", 9, new int[] {8, 8, 8, 8, 8, 8, 8, 8, 8, 8}, new int[] {8});
        // Keeping the 1, which is met first, would cost four.
        distance("the least number, not the first that is found", 2, new int[] {1, 2, 3}, new int[] {2, 3, 1});
    }

    private static void distance(String name, int distance, int[] one, int[] other) {
        new Run(name).write(one).due("commit(-1)", 0).write(other).due("changed(0)", distance).due("commit(-1)", 1)
            .due("distance(0, 1)", distance).due("distance(1, 0)", distance)
            .due("checkout(0)", one.length).due("changed(1)", distance);
    }

    // "A call that names a revision that is not held answers -1 and changes nothing."
    private static void revisionsThatAreNotHeld() {
        int[] removedNextAndBeyond = {
            2, 4, 5, 11, 12, 38, 39, 40, 41, 2147483647, -2, -3, -40, -2147483648, -1
        };
        for (int revision : removedNextAndBeyond) {
            eachCallThatNames(revision);
        }
    }

    private static void eachCallThatNames(int revision) {
        Run run = new Run("revision " + revision + " is not held").write(1, 2).due("commit(-1)", 0)
            .due("put(1, 3)", 3).due("commit(0)", 1).due("take(0)", 1).due("commit(1)", 2).due("commit(2)", 3)
            .due("put(0, 9)", 3).due("remove(2)", 3);
        run.refused("checkout(" + revision + ")").refused("remove(" + revision + ")")
            .refused("parent(" + revision + ")").refused("changed(" + revision + ")")
            .refused("distance(" + revision + ", 1)").refused("distance(1, " + revision + ")")
            .refused("distance(" + revision + ", " + revision + ")")
            .refused("base(" + revision + ", 1)").refused("base(1, " + revision + ")")
            .refused("base(" + revision + ", " + revision + ")");
        if (revision != -1) {
            run.refused("commit(" + revision + ")");
        }
    }

    // "A call that names a revision that is not held answers -1 and changes nothing."
    private static void noRevisionHeldAtAll() {
        new Run("no revision is held").write(1)
            .refused("commit(0)").refused("checkout(0)").refused("remove(0)").refused("parent(0)")
            .refused("distance(0, 0)").refused("changed(0)").refused("base(0, 0)").refused("find()");
    }
}

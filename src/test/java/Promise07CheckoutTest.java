import java.util.Arrays;

/** Above each test stands the sentence of the document that it tests. */
public final class Promise07CheckoutTest {
    public static void main(String[] args) {
        shorterAndLongerTexts();
        everyLengthAfterEveryLength();
        emptyText();
        fullText();
        firstAndLastNumber();
        everyNumber();
        revisionTooSmall();
        revisionTooLarge();
        revisionRemoved();
        noRevisionChanges();
        Run.end();
    }

    // "Makes the text of the revision the working text."
    private static void shorterAndLongerTexts() {
        new Run("shorter and longer texts").write(1, 2, 3).due("commit(-1)", 0)
            .write(9, 8, 7, 6, 5).due("commit(0)", 1)
            .due("checkout(0)", 3).reads(1, 2, 3).due("checkout(1)", 5).reads(9, 8, 7, 6, 5)
            .due("checkout(1)", 5).reads(9, 8, 7, 6, 5).due("checkout(0)", 3).reads(1, 2, 3);
    }

    // "Makes the text of the revision the working text.": however many lines both had
    private static void everyLengthAfterEveryLength() {
        for (int before = 0; before <= 10; before++) {
            for (int count = 0; count <= 10; count++) {
                new Run(count + " lines after " + before).write(Texts.count(count)).due("commit(-1)", 0)
                    .write().write(Arrays.copyOf(new int[] {9, 9, 9, 9, 9, 9, 9, 9, 9, 9}, before))
                    .due("checkout(0)", count).reads(Texts.count(count));
            }
        }
    }

    // "Answers the number of its lines": 0
    private static void emptyText() {
        new Run("an empty text").due("commit(-1)", 0).due("checkout(0)", 0).reads()
            .write(1, 2, 3, 4, 5, 6, 7, 8, 9, 10).due("checkout(0)", 0).reads().due("put(0, 5)", 1).reads(5);
    }

    // "Answers the number of its lines": 10
    private static void fullText() {
        new Run("a full text").write(9, 8, 7, 6, 5, 4, 3, 2, 0, 255).due("commit(-1)", 0)
            .write().due("checkout(0)", 10).reads(9, 8, 7, 6, 5, 4, 3, 2, 0, 255)
            .write(1, 1, 1, 1, 1, 1, 1, 1, 1, 1).due("checkout(0)", 10).reads(9, 8, 7, 6, 5, 4, 3, 2, 0, 255)
            .due("take(9)", 255).due("checkout(0)", 10).reads(9, 8, 7, 6, 5, 4, 3, 2, 0, 255)
            .refused("put(0, 1)");
    }

    // "Makes the text of the revision the working text.": the first and the last that can be made
    private static void firstAndLastNumber() {
        Run run = new Run("numbers 0 and 39").write(1, 2).due("commit(-1)", 0).write(3);
        for (int number = 1; number < 39; number++) {
            run.due("commit(0)", number).due("remove(" + number + ")", 1);
        }
        run.write(4, 5, 6).due("commit(0)", 39).write().due("checkout(39)", 3).reads(4, 5, 6)
            .due("checkout(0)", 2).reads(1, 2).refused("checkout(38)").refused("checkout(40)");
    }

    // "Makes the text of the revision the working text.": whichever of the forty it is
    private static void everyNumber() {
        Run run = new Run("numbers 0 to 39");
        for (int number = 0; number < 40; number++) {
            run.due("put(0, " + number + ")", 1).due("commit(-1)", number).due("take(0)", number);
            run.due("checkout(" + number + ")", 1).due("line(0)", number).due("take(0)", number);
            run.due("remove(" + number + ")", 0);
        }
    }

    private static Run twoHeld(String name) {
        return new Run(name).write(1, 2).due("commit(-1)", 0).due("commit(0)", 1).due("take(0)", 1);
    }

    // "or -1": too small
    private static void revisionTooSmall() {
        twoHeld("revision too small").refused("checkout(-1)").refused("checkout(-2)").refused("checkout(-3)")
            .refused("checkout(-2147483648)").reads(2);
    }

    // "or -1": too large, and none made yet
    private static void revisionTooLarge() {
        twoHeld("revision too large").refused("checkout(2)").refused("checkout(11)").refused("checkout(12)")
            .refused("checkout(39)").refused("checkout(40)").refused("checkout(41)")
            .refused("checkout(2147483647)").reads(2);
        new Run("none made yet").write(2).refused("checkout(0)").reads(2);
    }

    // "or -1": removed
    private static void revisionRemoved() {
        twoHeld("revision removed").due("remove(0)", 1).refused("checkout(0)").reads(2)
            .due("checkout(1)", 2).reads(1, 2).due("remove(1)", 0).refused("checkout(1)").reads(1, 2);
    }

    // "a text that never changes", and neither do numbers and parents
    private static void noRevisionChanges() {
        new Run("checkout changes no revision").write(1).due("commit(-1)", 0).write(2).due("commit(0)", 1)
            .due("checkout(0)", 1).due("parent(0)", -2).due("parent(1)", 0).due("distance(0, 1)", 2)
            .due("put(0, 5)", 2).due("checkout(1)", 1).reads(2).due("checkout(0)", 1).reads(1)
            .due("parent(0)", -2).due("parent(1)", 0).due("commit(1)", 2);
    }
}

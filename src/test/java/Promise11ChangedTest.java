/** Above each test stands the sentence of the document that it tests. */
public final class Promise11ChangedTest {
    public static void main(String[] args) {
        awayAndBack();
        emptyTexts();
        fullTexts();
        firstAndLastNumber();
        everyNumber();
        revisionTooSmall();
        revisionTooLarge();
        revisionRemoved();
        everyPairOfSmallTexts();
        linesThatDifferLittle();
        asksOnly();
        Run.end();
    }

    // "The distance of the working text and the text of the revision"
    private static void awayAndBack() {
        new Run("the working text goes away from a revision and back").write(10, 20, 30).due("commit(-1)", 0)
            .due("changed(0)", 0).due("put(1, 15)", 4).due("changed(0)", 1)
            .due("take(3)", 30).due("changed(0)", 2).due("put(3, 31)", 4).due("changed(0)", 3)
            .reads(10, 15, 20, 31)
            .due("take(3)", 31).due("put(3, 30)", 4).due("take(1)", 15).due("changed(0)", 0);
    }

    // "The distance of the working text and the text": one of them empty, or both
    private static void emptyTexts() {
        new Run("empty texts").due("commit(-1)", 0).due("changed(0)", 0)
            .due("put(0, 0)", 1).due("changed(0)", 1).due("commit(0)", 1).due("take(0)", 0).due("changed(1)", 1)
            .due("changed(0)", 0).write(1, 2, 3, 4, 5, 6, 7, 8, 9, 10).due("changed(0)", 10).due("commit(0)", 2)
            .write().due("changed(2)", 10);
    }

    // "The distance of the working text and the text": both of ten lines
    private static void fullTexts() {
        new Run("full texts").write(1, 2, 3, 4, 5, 6, 7, 8, 9, 10).due("commit(-1)", 0).due("changed(0)", 0)
            .write(11, 12, 13, 14, 15, 16, 17, 18, 19, 20).due("changed(0)", 20)
            .write(2, 3, 4, 5, 6, 7, 8, 9, 10, 1).due("changed(0)", 2)
            .write(1, 2, 3, 4, 5, 6, 7, 8, 9, 11).due("changed(0)", 2);
    }

    // "the text of the revision": the first and the last that can be made
    private static void firstAndLastNumber() {
        Run run = new Run("numbers 0 and 39").write(1, 2, 3).due("commit(-1)", 0);
        for (int number = 1; number < 39; number++) {
            run.due("commit(0)", number).due("remove(" + number + ")", 1);
        }
        run.due("take(1)", 2).due("commit(0)", 39).due("changed(39)", 0).due("changed(0)", 1)
            .write(8, 8).due("changed(39)", 4).due("changed(0)", 5).refused("changed(40)").refused("changed(38)");
    }

    // "the text of the revision": whichever of the forty it is
    private static void everyNumber() {
        Run run = new Run("numbers 0 to 39").write(1, 2);
        for (int number = 0; number < 40; number++) {
            run.due("commit(-1)", number).due("changed(" + number + ")", 0);
            run.due("put(1, 9)", 3).due("changed(" + number + ")", 1).due("take(1)", 9);
            run.due("remove(" + number + ")", 0);
        }
    }

    private static Run twoHeld(String name) {
        return new Run(name).write(1).due("commit(-1)", 0).due("commit(0)", 1).write(2);
    }

    // "or -1": too small
    private static void revisionTooSmall() {
        twoHeld("revision too small").refused("changed(-1)").refused("changed(-2)").refused("changed(-3)")
            .refused("changed(-2147483648)");
    }

    // "or -1": too large, and none made yet
    private static void revisionTooLarge() {
        twoHeld("revision too large").refused("changed(2)").refused("changed(11)").refused("changed(12)")
            .refused("changed(39)").refused("changed(40)").refused("changed(41)").refused("changed(2147483647)");
        new Run("none made yet").refused("changed(0)").refused("changed(-1)");
    }

    // "or -1": removed
    private static void revisionRemoved() {
        twoHeld("revision removed").due("remove(0)", 1).refused("changed(0)").due("changed(1)", 2)
            .due("remove(1)", 0).refused("changed(1)");
    }

    // "The distance of the working text and the text": as found by trying every choice of lines that stay
    private static void everyPairOfSmallTexts() {
        for (int[] text : Texts.small()) {
            for (int[] working : Texts.small()) {
                int due = Model.distance(Texts.list(text), Texts.list(working));
                new Run("texts of distance " + due).write(text).due("commit(-1)", 0).write(working)
                    .due("changed(0)", due);
            }
        }
    }

    // "all other lines stay": only lines that are equal in all their bits can
    private static void linesThatDifferLittle() {
        for (int bit = 1; bit <= 128; bit *= 2) {
            new Run("lines that differ by " + bit).write(0).due("commit(-1)", 0).write(bit).due("changed(0)", 2)
                .write(7, 0).due("changed(0)", 1).write(bit, 7).due("changed(0)", 3);
        }
    }

    // "Nothing is promised beyond the answers and state changes described above": this call has none
    private static void asksOnly() {
        twoHeld("changed changes nothing").due("commit(1)", 2).due("put(1, 1)", 2)
            .asked("changed(0)", 1).asked("changed(1)", 1).asked("changed(2)", 1).asked("changed(2)", 1);
    }
}

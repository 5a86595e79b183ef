import java.util.Arrays;

/** Above each test stands the sentence of the document that it tests. */
public final class Promise13FindTest {
    public static void main(String[] args) {
        leastNumber();
        ofThoseHeld();
        noneHeld();
        noneEqual();
        emptyText();
        fullText();
        leastAndGreatestLine();
        twelveHeld();
        everyNumber();
        everyPairOfSmallTexts();
        linesThatDifferLittle();
        asksOnly();
        Run.end();
    }

    // "The least number of the revision, of those held, whose text is equal to the working text"
    private static void leastNumber() {
        new Run("the least of several").write(1, 2).due("commit(-1)", 0).due("find()", 0)
            .write(1).due("commit(0)", 1).due("find()", 1).due("commit(1)", 2).due("find()", 1)
            .write(1, 2).due("commit(2)", 3).due("find()", 0).reads(1, 2);
    }

    // "of those held": not of those removed
    private static void ofThoseHeld() {
        new Run("removed ones are not found").write(1, 2).due("commit(-1)", 0).due("commit(0)", 1).due("commit(1)", 2)
            .due("find()", 0).due("remove(0)", 2).due("find()", 1).due("remove(2)", 1).due("find()", 1)
            .due("remove(1)", 0).due("find()", -1).due("commit(-1)", 3).due("find()", 3);
    }

    // "-1 if there is none": no revision is held
    private static void noneHeld() {
        new Run("none made yet").refused("find()").write(1).refused("find()");
        new Run("all removed").due("commit(-1)", 0).due("remove(0)", 0).refused("find()");
    }

    // "-1 if there is none": texts that are nearly equal
    private static void noneEqual() {
        new Run("texts that are nearly equal").write(1, 2, 3).due("commit(-1)", 0)
            .write(1, 2).refused("find()").write(1, 2, 3, 3).refused("find()").write(3, 2, 1).refused("find()")
            .write(1, 2, 4).refused("find()").write(0, 2, 3).refused("find()").write(1, 2, 3).due("find()", 0);
    }

    // "whose text is equal to the working text": both without lines
    private static void emptyText() {
        new Run("the empty text").write(1).due("commit(-1)", 0).write().refused("find()")
            .due("commit(0)", 1).due("find()", 1).due("put(0, 0)", 1).refused("find()")
            .due("take(0)", 0).due("find()", 1);
    }

    // "whose text is equal to the working text": both of ten lines
    private static void fullText() {
        new Run("full texts that differ in the last line").write(1, 2, 3, 4, 5, 6, 7, 8, 9, 10).due("commit(-1)", 0)
            .due("take(9)", 10).refused("find()").due("put(9, 11)", 10).refused("find()")
            .due("commit(0)", 1).due("find()", 1).due("take(9)", 11).due("put(9, 10)", 10).due("find()", 0);
        new Run("full texts that differ in the first line").write(1, 2, 3, 4, 5, 6, 7, 8, 9, 10).due("commit(-1)", 0)
            .due("take(0)", 1).due("put(0, 0)", 10).refused("find()").due("take(0)", 0).due("put(0, 1)", 10)
            .due("find()", 0);
    }

    // "whose text is equal to the working text": lines at both ends of what a line can be
    private static void leastAndGreatestLine() {
        new Run("lines 0 and 255").write(0).due("commit(-1)", 0).write(255).refused("find()").due("commit(-1)", 1)
            .due("find()", 1).write(0).due("find()", 0).write(128).refused("find()");
    }

    // "of those held": the first and the last of twelve
    private static void twelveHeld() {
        Run run = new Run("twelve held");
        for (int number = 0; number < 12; number++) {
            run.write(number).due("commit(-1)", number);
        }
        run.due("find()", 11).write(0).due("find()", 0).write(6).due("find()", 6).write(12).refused("find()");
    }

    // "The least number": whichever of the forty it is
    private static void everyNumber() {
        Run run = new Run("numbers 0 to 39").write(5);
        for (int number = 0; number < 40; number++) {
            run.due("commit(-1)", number).due("find()", number);
            run.due("remove(" + number + ")", 0).due("find()", -1);
        }
        Run two = new Run("38 and 39 held").write(5);
        for (int number = 0; number < 38; number++) {
            two.due("commit(-1)", number).due("remove(" + number + ")", 0);
        }
        two.due("commit(-1)", 38).due("commit(38)", 39).due("find()", 38).due("remove(38)", 1).due("find()", 39);
    }

    // "whose text is equal to the working text": and no other
    private static void everyPairOfSmallTexts() {
        for (int[] text : Texts.small()) {
            for (int[] working : Texts.small()) {
                new Run("one text held").write(text).due("commit(-1)", 0).write(working)
                    .due("find()", Arrays.equals(text, working) ? 0 : -1);
            }
        }
    }

    // "equal": in all bits of each line
    private static void linesThatDifferLittle() {
        for (int bit = 1; bit <= 128; bit *= 2) {
            for (int place = 0; place < 10; place++) {
                int[] text = Texts.count(10);
                Run run = new Run("lines that differ by " + bit + " at " + place).write(text).due("commit(-1)", 0);
                run.due("take(" + place + ")", text[place]).due("put(" + place + ", " + (text[place] ^ bit) + ")", 10);
                run.due("find()", -1).due("take(" + place + ")", text[place] ^ bit);
                run.due("put(" + place + ", " + text[place] + ")", 10).due("find()", 0);
            }
        }
    }

    // "Nothing is promised beyond the answers and state changes described above": this call has none
    private static void asksOnly() {
        new Run("find changes nothing").write(1, 2).due("commit(-1)", 0).write(1).due("commit(0)", 1)
            .due("commit(1)", 2).asked("find()", 1).asked("find()", 1).write(3).asked("find()", -1);
    }
}

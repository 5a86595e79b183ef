/** Above each test stands the sentence of the document that it tests. */
public final class Promise05LineTest {
    public static void main(String[] args) {
        everyPlace();
        placeTooSmall();
        placeTooLarge();
        emptyText();
        placesOfEarlierTexts();
        everyPlaceOfEveryText();
        everyLine();
        asksOnly();
        Run.end();
    }

    // "The line of the working text at the place": also the first, the last, the least and the greatest
    private static void everyPlace() {
        new Run("every place of a full text").write(0, 8, 7, 6, 5, 4, 3, 2, 0, 255)
            .due("line(0)", 0).due("line(1)", 8).due("line(2)", 7).due("line(3)", 6).due("line(4)", 5)
            .due("line(5)", 4).due("line(6)", 3).due("line(7)", 2).due("line(8)", 0).due("line(9)", 255)
            .due("lines()", 10);
        new Run("the only place of one").write(5).due("line(0)", 5);
    }

    // "-1 if there is none": too small
    private static void placeTooSmall() {
        new Run("place too small").write(1, 2, 3)
            .refused("line(-1)").refused("line(-2)").refused("line(-10)").refused("line(-2147483648)");
        // A line of the last revision stands just before the working text if both share an array.
        Run run = new Run("place too small, with the last number held").write(1, 2, 3, 4, 5, 6, 7, 8, 9, 10);
        for (int number = 0; number < 39; number++) {
            run.due("commit(-1)", number).due("remove(" + number + ")", 0);
        }
        run.due("commit(-1)", 39).due("line(-1)", -1).due("line(-10)", -1).due("take(-1)", -1);
    }

    // "-1 if there is none": too large
    private static void placeTooLarge() {
        new Run("place too large").write(1, 2, 3)
            .refused("line(3)").refused("line(4)").refused("line(9)").refused("line(10)").refused("line(2147483647)");
        new Run("behind ten lines").write(1, 2, 3, 4, 5, 6, 7, 8, 9, 10).refused("line(10)").refused("line(11)");
    }

    // "-1 if there is none": an empty text
    private static void emptyText() {
        new Run("an empty text").refused("line(0)").refused("line(-1)").refused("line(1)").refused("line(10)");
    }

    // "-1 if there is none": where there was one before
    private static void placesOfEarlierTexts() {
        new Run("a place behind the last line").write(1, 2, 3).due("take(2)", 3)
            .due("line(1)", 2).refused("line(2)").refused("line(3)");
        new Run("a place that a longer text had before").due("commit(-1)", 0).write(1, 2)
            .due("checkout(0)", 0).refused("line(0)").refused("line(1)");
    }

    // "The line [...] at the place; -1 if there is none.": however many lines there are
    private static void everyPlaceOfEveryText() {
        for (int count = 0; count <= 10; count++) {
            Run run = new Run(count + " lines").write(Texts.count(count));
            for (int place = -11; place <= 21; place++) {
                run.due("line(" + place + ")", place >= 0 && place < count ? place + 1 : -1);
            }
        }
    }

    // "The line of the working text": whichever it is
    private static void everyLine() {
        for (int line = 0; line <= 255; line++) {
            new Run("line " + line).due("put(0, " + line + ")", 1).due("line(0)", line).due("commit(-1)", 0)
                .due("take(0)", line).due("checkout(0)", 1).due("line(0)", line);
        }
    }

    // "Nothing is promised beyond the answers and state changes described above": this call has none
    private static void asksOnly() {
        new Run("line changes nothing").write(7, 8, 9).due("commit(-1)", 0).due("commit(0)", 1)
            .asked("line(0)", 7).asked("line(1)", 8).asked("line(2)", 9).asked("line(2)", 9).asked("line(3)", -1);
    }
}

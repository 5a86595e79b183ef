/** Above each test stands the sentence of the document that it tests. */
public final class Promise03TakeTest {
    public static void main(String[] args) {
        lineIsTakenOut();
        everyPlaceOfEveryText();
        firstAndLastPlace();
        placeTooSmall();
        placeTooLarge();
        emptyText();
        answersTheLine();
        revisionsStayAsTheyAre();
        Run.end();
    }

    // "Takes the line at the place out of the working text."
    private static void lineIsTakenOut() {
        new Run("take the first, the last and one between").write(10, 20, 30, 40, 50)
            .due("take(0)", 10).reads(20, 30, 40, 50)
            .due("take(3)", 50).reads(20, 30, 40)
            .due("take(1)", 30).reads(20, 40)
            .due("take(1)", 40).due("take(0)", 20).reads();
    }

    // "the line at the place": whichever it is, and however many lines there are
    private static void everyPlaceOfEveryText() {
        for (int count = 1; count <= 10; count++) {
            for (int place = 0; place < count; place++) {
                new Run("place " + place + " of " + count + " lines").write(Texts.count(count))
                    .due("take(" + place + ")", place + 1).reads(Texts.without(Texts.count(count), place));
            }
        }
    }

    // "-1 [...] if there is no such line": there is one at both ends, in a full text too
    private static void firstAndLastPlace() {
        new Run("the last place of ten").write(1, 2, 3, 4, 5, 6, 7, 8, 9, 10)
            .due("take(9)", 10).reads(1, 2, 3, 4, 5, 6, 7, 8, 9);
        new Run("the first place of ten").write(1, 2, 3, 4, 5, 6, 7, 8, 9, 10)
            .due("take(0)", 1).reads(2, 3, 4, 5, 6, 7, 8, 9, 10);
        new Run("the only place of one").write(7).due("take(0)", 7).reads();
    }

    // "Answers -1 and changes nothing if there is no such line.": too small
    private static void placeTooSmall() {
        new Run("place too small").write(1, 2, 3)
            .refused("take(-1)").refused("take(-2)").refused("take(-10)").refused("take(-2147483648)").reads(1, 2, 3);
    }

    // "Answers -1 and changes nothing if there is no such line.": too large
    private static void placeTooLarge() {
        new Run("place too large").write(1, 2, 3)
            .refused("take(3)").refused("take(4)").refused("take(9)").refused("take(10)")
            .refused("take(2147483647)").reads(1, 2, 3);
        new Run("a place that had a line before").write(1, 2).due("take(1)", 2).refused("take(1)").reads(1);
        new Run("behind ten lines").write(1, 2, 3, 4, 5, 6, 7, 8, 9, 10).refused("take(10)").refused("take(11)")
            .reads(1, 2, 3, 4, 5, 6, 7, 8, 9, 10);
        new Run("a place that a longer text had before").write(1).due("commit(-1)", 0).write(1, 2, 3)
            .due("checkout(0)", 1).refused("take(1)").refused("take(2)").reads(1);
    }

    // "Answers -1 and changes nothing if there is no such line.": an empty text
    private static void emptyText() {
        new Run("an empty text").refused("take(0)").refused("take(-1)").refused("take(1)").reads();
        new Run("a text that became empty").write(1).due("take(0)", 1).refused("take(0)").reads();
    }

    // "Otherwise answers the line."
    private static void answersTheLine() {
        new Run("the least and the greatest line").write(0, 255).due("take(0)", 0).due("take(0)", 255).reads();
        for (int line = 0; line <= 255; line++) {
            new Run("line " + line).due("put(0, " + line + ")", 1).due("take(0)", line);
        }
    }

    // "a text that never changes"
    private static void revisionsStayAsTheyAre() {
        new Run("take after commit and checkout").write(1, 2).due("commit(-1)", 0)
            .due("take(0)", 1).due("checkout(0)", 2).reads(1, 2)
            .due("take(1)", 2).due("checkout(0)", 2).reads(1, 2);
    }
}

/** Above each test stands the sentence of the document that it tests. */
public final class Promise02PutTest {
    public static void main(String[] args) {
        lineStandsAtThePlace();
        everyPlaceOfEveryText();
        everyLine();
        leastAndGreatestLine();
        lineTooSmall();
        lineTooLarge();
        placeOfTheFirstAndBehindTheLast();
        placeTooSmall();
        placeTooLarge();
        emptyText();
        fullText();
        answersTheNumberOfLines();
        revisionsStayAsTheyAre();
        Run.end();
    }

    // "Puts a line into the working text so that it stands at the place (0 is the first)."
    private static void lineStandsAtThePlace() {
        new Run("put at the end, the front and between")
            .due("put(0, 10)", 1).due("put(1, 20)", 2).reads(10, 20)
            .due("put(0, 5)", 3).reads(5, 10, 20)
            .due("put(1, 7)", 4).reads(5, 7, 10, 20)
            .due("put(3, 15)", 5).reads(5, 7, 10, 15, 20)
            .due("put(2, 7)", 6).reads(5, 7, 7, 10, 15, 20);
    }

    // "so that it stands at the place": whichever it is, and however many lines there are
    private static void everyPlaceOfEveryText() {
        for (int count = 0; count < 10; count++) {
            for (int place = 0; place <= count; place++) {
                new Run("place " + place + " of " + count + " lines").write(Texts.count(count))
                    .due("put(" + place + ", 99)", count + 1).reads(Texts.with(Texts.count(count), place, 99));
            }
        }
    }

    // "Puts a line": whichever it is
    private static void everyLine() {
        for (int line = 0; line <= 255; line++) {
            new Run("line " + line).due("put(0, " + line + ")", 1).reads(line);
        }
    }

    // "-1 [...] if line is not from 0 to 255": both ends are lines
    private static void leastAndGreatestLine() {
        new Run("line 0").due("put(0, 0)", 1).reads(0);
        new Run("line 255").due("put(0, 255)", 1).reads(255);
        new Run("lines next to the ends and in the midst")
            .due("put(0, 1)", 1).due("put(1, 254)", 2).due("put(1, 128)", 3).due("put(1, 127)", 4)
            .reads(1, 127, 128, 254);
    }

    // "Answers -1 and changes nothing if line is not from 0 to 255": too small
    private static void lineTooSmall() {
        new Run("line too small").write(1, 2)
            .refused("put(0, -1)").refused("put(1, -1)").refused("put(2, -1)").refused("put(0, -2)")
            .refused("put(0, -255)").refused("put(0, -256)").refused("put(0, -2147483648)").reads(1, 2);
    }

    // "Answers -1 and changes nothing if line is not from 0 to 255": too large
    private static void lineTooLarge() {
        new Run("line too large").write(1, 2)
            .refused("put(0, 256)").refused("put(1, 256)").refused("put(2, 256)").refused("put(2, 257)")
            .refused("put(0, 511)").refused("put(0, 65536)").refused("put(0, 2147483647)").reads(1, 2);
    }

    // "-1 [...] if [...] place is not from 0 to the number of lines": both ends are places
    private static void placeOfTheFirstAndBehindTheLast() {
        new Run("place 0 and the number of lines").write(4, 5)
            .due("put(2, 6)", 3).reads(4, 5, 6).due("put(0, 3)", 4).reads(3, 4, 5, 6);
        new Run("the last place of all").write(1, 2, 3, 4, 5, 6, 7, 8, 9)
            .due("put(9, 10)", 10).reads(1, 2, 3, 4, 5, 6, 7, 8, 9, 10);
        new Run("the first place of a text that it fills").write(1, 2, 3, 4, 5, 6, 7, 8, 9)
            .due("put(0, 10)", 10).reads(10, 1, 2, 3, 4, 5, 6, 7, 8, 9);
    }

    // "Answers -1 and changes nothing if [...] place is not from 0 to the number of lines": too small
    private static void placeTooSmall() {
        new Run("place too small").write(1, 2)
            .refused("put(-1, 3)").refused("put(-2, 3)").refused("put(-10, 3)").refused("put(-2147483648, 3)")
            .reads(1, 2);
    }

    // "Answers -1 and changes nothing if [...] place is not from 0 to the number of lines": too large
    private static void placeTooLarge() {
        new Run("place too large").write(1, 2)
            .refused("put(3, 3)").refused("put(4, 3)").refused("put(9, 3)").refused("put(10, 3)")
            .refused("put(11, 3)").refused("put(2147483647, 3)").reads(1, 2);
        new Run("place too large after a take").write(1, 2).due("take(1)", 2).refused("put(2, 3)").reads(1);
        new Run("place too large in a text of nine lines").write(1, 2, 3, 4, 5, 6, 7, 8, 9).refused("put(10, 3)");
    }

    // "place is not from 0 to the number of lines": of an empty text, 0 is the only place
    private static void emptyText() {
        new Run("an empty text").refused("put(1, 3)").refused("put(-1, 3)").reads().due("put(0, 3)", 1).reads(3);
    }

    // "Answers -1 and changes nothing if [...] there are 10 lines"
    private static void fullText() {
        Run run = new Run("ten lines").write(1, 2, 3, 4, 5, 6, 7, 8, 9).due("put(4, 50)", 10);
        for (int place = 0; place <= 11; place++) {
            run.refused("put(" + place + ", 11)");
        }
        run.reads(1, 2, 3, 4, 50, 5, 6, 7, 8, 9)
            .due("take(9)", 9).due("put(0, 11)", 10).reads(11, 1, 2, 3, 4, 50, 5, 6, 7, 8);
        new Run("ten lines that were checked out").write(1, 2, 3, 4, 5, 6, 7, 8, 9, 10).due("commit(-1)", 0)
            .write(1).due("checkout(0)", 10).refused("put(0, 11)").refused("put(10, 11)")
            .reads(1, 2, 3, 4, 5, 6, 7, 8, 9, 10);
    }

    // "Otherwise answers the number of lines then."
    private static void answersTheNumberOfLines() {
        Run run = new Run("from one line to ten");
        for (int lines = 1; lines <= 10; lines++) {
            run.due("put(" + lines / 2 + ", 200)", lines);
        }
    }

    // "a text that never changes"
    private static void revisionsStayAsTheyAre() {
        new Run("put after commit and checkout").write(1, 2).due("commit(-1)", 0)
            .due("put(1, 9)", 3).due("checkout(0)", 2).reads(1, 2)
            .due("put(0, 9)", 3).due("checkout(0)", 2).reads(1, 2);
    }
}

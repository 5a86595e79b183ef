public final class Promise02PutTest {
    public static void main(String[] args) {
        lineStandsAtThePlace();
        linesOfAllSizes();
        wrongLines();
        wrongPlaces();
        fullText();
        revisionsStayAsTheyAre();
        Run.end();
    }

    private static void lineStandsAtThePlace() {
        new Run("put at the end, the front and between")
            .due("put(0, 10)", 1).due("put(1, 20)", 2).reads(10, 20)
            .due("put(0, 5)", 3).reads(5, 10, 20)
            .due("put(1, 7)", 4).reads(5, 7, 10, 20)
            .due("put(3, 15)", 5).reads(5, 7, 10, 15, 20)
            .due("put(2, 7)", 6).reads(5, 7, 7, 10, 15, 20);
    }

    private static void linesOfAllSizes() {
        new Run("the least and the greatest line")
            .due("put(0, 0)", 1).due("put(1, 255)", 2).due("put(1, 128)", 3).due("put(1, 127)", 4)
            .reads(0, 127, 128, 255);
    }

    private static void wrongLines() {
        new Run("lines out of range").write(1, 2)
            .refused("put(0, -1)").refused("put(1, 256)").refused("put(2, 257)").refused("put(0, -256)")
            .refused("put(0, 2147483647)").refused("put(0, -2147483648)").reads(1, 2);
    }

    private static void wrongPlaces() {
        new Run("places out of range").write(1, 2)
            .refused("put(-1, 3)").refused("put(3, 3)").refused("put(10, 3)").refused("put(11, 3)")
            .refused("put(2147483647, 3)").refused("put(-2147483648, 3)").reads(1, 2);
        new Run("place 1 of an empty text").refused("put(1, 3)").refused("put(-1, 3)").reads();
    }

    private static void fullText() {
        new Run("ten lines are the most").write(1, 2, 3, 4, 5, 6, 7, 8, 9).due("put(4, 50)", 10)
            .refused("put(10, 11)").refused("put(0, 11)").refused("put(9, 11)")
            .reads(1, 2, 3, 4, 50, 5, 6, 7, 8, 9)
            .due("take(9)", 9).due("put(0, 11)", 10).reads(11, 1, 2, 3, 4, 50, 5, 6, 7, 8);
    }

    private static void revisionsStayAsTheyAre() {
        new Run("put after commit and checkout").write(1, 2).due("commit(-1)", 0)
            .due("put(1, 9)", 3).due("checkout(0)", 2).reads(1, 2)
            .due("put(0, 9)", 3).due("checkout(0)", 2).reads(1, 2);
    }
}

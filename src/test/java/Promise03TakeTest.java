public final class Promise03TakeTest {
    public static void main(String[] args) {
        lineIsTakenOut();
        wrongPlaces();
        lastPlaceOfAFullText();
        revisionsStayAsTheyAre();
        Run.end();
    }

    private static void lineIsTakenOut() {
        new Run("take the first, the last and one between").write(10, 20, 30, 40, 50)
            .due("take(0)", 10).reads(20, 30, 40, 50)
            .due("take(3)", 50).reads(20, 30, 40)
            .due("take(1)", 30).reads(20, 40)
            .due("take(1)", 40).due("take(0)", 20).reads()
            .refused("take(0)");
        new Run("a line 0 is answered as 0").write(0, 255).due("take(0)", 0).due("take(0)", 255).reads();
    }

    private static void wrongPlaces() {
        new Run("no such line").write(1, 2, 3)
            .refused("take(3)").refused("take(-1)").refused("take(10)").refused("take(9)")
            .refused("take(2147483647)").refused("take(-2147483648)").reads(1, 2, 3);
        new Run("a place that had a line before").write(1, 2).due("take(1)", 2).refused("take(1)").reads(1);
    }

    private static void lastPlaceOfAFullText() {
        new Run("ten lines").write(1, 2, 3, 4, 5, 6, 7, 8, 9, 10)
            .refused("take(10)").due("take(9)", 10).due("take(0)", 1).reads(2, 3, 4, 5, 6, 7, 8, 9);
    }

    private static void revisionsStayAsTheyAre() {
        new Run("take after commit and checkout").write(1, 2).due("commit(-1)", 0)
            .due("take(0)", 1).due("checkout(0)", 2).reads(1, 2)
            .due("take(1)", 2).due("checkout(0)", 2).reads(1, 2);
    }
}

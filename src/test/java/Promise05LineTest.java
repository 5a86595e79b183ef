public final class Promise05LineTest {
    public static void main(String[] args) {
        new Run("line of an empty text").refused("line(0)").refused("line(-1)").refused("line(10)");
        new Run("every place of a full text").write(9, 8, 7, 6, 5, 4, 3, 2, 0, 255)
            .due("line(0)", 9).due("line(4)", 5).due("line(8)", 0).due("line(9)", 255)
            .refused("line(10)").refused("line(-1)").refused("line(2147483647)").refused("line(-2147483648)");
        new Run("a place behind the last line").write(1, 2, 3).due("take(2)", 3)
            .due("line(1)", 2).refused("line(2)").refused("line(3)");
        new Run("a place that a longer text had before").due("commit(-1)", 0).write(1, 2)
            .due("checkout(0)", 0).due("line(0)", -1).due("line(1)", -1);
        Run.end();
    }
}

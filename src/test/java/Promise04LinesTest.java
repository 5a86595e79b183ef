public final class Promise04LinesTest {
    public static void main(String[] args) {
        Run run = new Run("lines follows put and take").due("lines()", 0);
        for (int count = 1; count <= 10; count++) {
            run.due("put(0, " + count + ")", count).due("lines()", count).due("lines()", count);
        }
        run.due("put(0, 1)", -1).due("lines()", 10);
        for (int count = 9; count >= 0; count--) {
            run.due("take(" + count + ")", 10 - count).due("lines()", count);
        }
        run.due("take(0)", -1).due("lines()", 0);

        new Run("lines follows checkout and not commit or remove").write(1, 2, 3)
            .due("commit(-1)", 0).due("lines()", 3).due("take(0)", 1).due("lines()", 2)
            .due("commit(0)", 1).due("checkout(0)", 3).due("lines()", 3)
            .due("checkout(1)", 2).due("lines()", 2).due("checkout(7)", -1).due("lines()", 2)
            .due("remove(1)", 1).due("lines()", 2).due("remove(0)", 0).due("lines()", 2);
        Run.end();
    }
}

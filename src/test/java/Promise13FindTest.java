public final class Promise13FindTest {
    public static void main(String[] args) {
        new Run("the least of several").write(1, 2).due("find()", -1)
            .due("commit(-1)", 0).due("find()", 0).write(1).due("find()", -1).due("commit(0)", 1)
            .due("find()", 1).due("commit(1)", 2).due("find()", 1).write(1, 2).due("commit(2)", 3)
            .due("find()", 0).reads(1, 2)
            .due("remove(0)", 3).due("find()", 3).due("remove(3)", 2).due("find()", -1)
            .due("checkout(2)", 1).due("find()", 1).due("remove(1)", 1).due("find()", 2);
        new Run("the empty text").due("find()", -1).write(1).due("commit(-1)", 0).write().due("find()", -1)
            .due("commit(0)", 1).due("find()", 1).due("put(0, 0)", 1).due("find()", -1);
        new Run("texts that are nearly equal").write(1, 2, 3).due("commit(-1)", 0)
            .write(1, 2).due("find()", -1).write(1, 2, 3, 3).due("find()", -1).write(3, 2, 1).due("find()", -1)
            .write(1, 2, 4).due("find()", -1).write(0, 2, 3).due("find()", -1).write(1, 2, 3).due("find()", 0);
        new Run("full texts that differ in the last line").write(1, 2, 3, 4, 5, 6, 7, 8, 9, 10).due("commit(-1)", 0)
            .due("take(9)", 10).due("find()", -1).due("put(9, 11)", 10).due("find()", -1)
            .due("commit(0)", 1).due("find()", 1).due("take(9)", 11).due("put(9, 10)", 10).due("find()", 0);

        Run last = new Run("the last number").write(5);
        for (int number = 0; number < 40; number++) {
            last.due("commit(-1)", number).due("find()", number).due("remove(" + number + ")", 0);
            if (number == 38) {
                last.write(5, 5);
            }
        }
        last.due("find()", -1).due("lines()", 2);
        Run held = new Run("the last number, held").write(5);
        for (int number = 0; number < 39; number++) {
            held.due("commit(-1)", number).due("remove(" + number + ")", 0);
        }
        held.due("commit(-1)", 39).due("find()", 39);
        Run.end();
    }
}

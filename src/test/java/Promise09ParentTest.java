public final class Promise09ParentTest {
    public static void main(String[] args) {
        new Run("parents of a tree")
            .due("commit(-1)", 0).due("commit(0)", 1).due("commit(0)", 2).due("commit(2)", 3).due("commit(-1)", 4)
            .due("parent(0)", -2).due("parent(1)", 0).due("parent(2)", 0).due("parent(3)", 2).due("parent(4)", -2)
            .refused("parent(5)").refused("parent(-1)").refused("parent(-2)").refused("parent(12)")
            .refused("parent(39)").refused("parent(40)").refused("parent(41)")
            .refused("parent(2147483647)").refused("parent(-2147483648)");
        new Run("a removed revision has no parent to tell")
            .due("commit(-1)", 0).due("commit(0)", 1).due("remove(1)", 1).due("parent(1)", -1)
            .due("commit(0)", 2).due("parent(1)", -1).due("parent(2)", 0);
        Run last = new Run("the last number");
        for (int number = 0; number < 39; number++) {
            last.due("commit(-1)", number).due("remove(" + number + ")", 0);
        }
        last.due("commit(-1)", 39).due("parent(39)", -2).due("parent(38)", -1).due("parent(0)", -1);
        Run.end();
    }
}

public final class Promise12BaseTest {
    public static void main(String[] args) {
        forebearsInATree();
        separateTrees();
        afterRemove();
        longestRows();
        wrongRevisions();
        Run.end();
    }

    // 0 has the children 1 and 2; 1 has 3 and 4; 2 has 5; 5 has 6.
    private static Run tree(String name) {
        return new Run(name).due("commit(-1)", 0).due("commit(0)", 1).due("commit(0)", 2)
            .due("commit(1)", 3).due("commit(1)", 4).due("commit(2)", 5).due("commit(5)", 6);
    }

    private static void forebearsInATree() {
        tree("forebears in a tree")
            .due("base(3, 4)", 1).due("base(4, 3)", 1).due("base(3, 6)", 0).due("base(6, 3)", 0)
            .due("base(6, 2)", 2).due("base(2, 6)", 2).due("base(5, 6)", 5).due("base(6, 5)", 5)
            .due("base(0, 6)", 0).due("base(6, 0)", 0).due("base(1, 2)", 0)
            .due("base(0, 0)", 0).due("base(4, 4)", 4).due("base(6, 6)", 6);
    }

    private static void separateTrees() {
        tree("two trees").due("commit(-1)", 7).due("commit(7)", 8)
            .due("base(8, 3)", -2).due("base(3, 8)", -2).due("base(7, 0)", -2).due("base(0, 7)", -2)
            .due("base(8, 7)", 7).due("base(7, 8)", 7).due("base(8, 8)", 8);
    }

    private static void afterRemove() {
        tree("removed revisions leave the rows")
            .due("remove(1)", 6).due("base(3, 4)", 0).due("base(3, 5)", 0)
            .due("remove(5)", 5).due("base(6, 2)", 2).due("base(2, 6)", 2)
            .due("remove(0)", 4).due("base(3, 4)", -2).due("base(4, 6)", -2).due("base(6, 2)", 2)
            .due("base(0, 3)", -1);
    }

    private static void longestRows() {
        Run chain = new Run("a row of twelve");
        for (int number = 0; number < 12; number++) {
            chain.due("commit(" + (number - 1) + ")", number);
        }
        chain.due("base(11, 0)", 0).due("base(0, 11)", 0).due("base(11, 11)", 11).due("base(10, 11)", 10);

        Run fork = new Run("two rows that meet at the root only").due("commit(-1)", 0).due("commit(0)", 1);
        fork.due("commit(0)", 2);
        for (int number = 3; number < 12; number++) {
            fork.due("commit(" + (number - 1) + ")", number);
        }
        fork.due("base(1, 11)", 0).due("base(11, 1)", 0);

        Run apart = new Run("a row of eleven and one apart").due("commit(-1)", 0).due("commit(-1)", 1);
        for (int number = 2; number < 12; number++) {
            apart.due("commit(" + (number - 1) + ")", number);
        }
        apart.due("base(0, 11)", -2).due("base(11, 0)", -2).due("base(1, 11)", 1);
    }

    private static void wrongRevisions() {
        new Run("what is not held").due("commit(-1)", 0).due("commit(0)", 1)
            .refused("base(0, 2)").refused("base(2, 0)").refused("base(2, 2)")
            .refused("base(-1, 0)").refused("base(0, -1)").refused("base(-2, -2)").refused("base(-1, -1)")
            .refused("base(40, 0)").refused("base(0, 40)").refused("base(39, 39)")
            .refused("base(2147483647, 1)").refused("base(1, -2147483648)")
            .due("remove(1)", 1).refused("base(1, 0)").refused("base(0, 1)").refused("base(1, 1)");
    }
}

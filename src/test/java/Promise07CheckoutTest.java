public final class Promise07CheckoutTest {
    public static void main(String[] args) {
        new Run("checkout of shorter, longer, empty and full texts")
            .due("commit(-1)", 0).write(1, 2, 3).due("commit(0)", 1)
            .write(9, 8, 7, 6, 5, 4, 3, 2, 0, 255).due("commit(0)", 2)
            .due("checkout(1)", 3).reads(1, 2, 3)
            .due("checkout(0)", 0).reads()
            .due("checkout(2)", 10).reads(9, 8, 7, 6, 5, 4, 3, 2, 0, 255)
            .due("checkout(2)", 10).due("checkout(1)", 3).reads(1, 2, 3);

        new Run("what is not held").write(1, 2).due("commit(-1)", 0).due("commit(0)", 1).due("take(0)", 1)
            .refused("checkout(2)").refused("checkout(-1)").refused("checkout(-2)").refused("checkout(12)")
            .refused("checkout(39)").refused("checkout(40)").refused("checkout(41)")
            .refused("checkout(2147483647)").refused("checkout(-2147483648)")
            .due("remove(0)", 1).refused("checkout(0)").reads(2).due("checkout(1)", 2).reads(1, 2);

        new Run("checkout changes no revision").write(1).due("commit(-1)", 0).write(2).due("commit(0)", 1)
            .due("checkout(0)", 1).due("parent(0)", -2).due("parent(1)", 0).due("distance(0, 1)", 2)
            .due("put(0, 5)", 2).due("checkout(1)", 1).reads(2).due("checkout(0)", 1).reads(1)
            .due("commit(1)", 2);
        Run.end();
    }
}

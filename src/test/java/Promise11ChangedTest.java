public final class Promise11ChangedTest {
    public static void main(String[] args) {
        new Run("the working text goes away from a revision and back").write(10, 20, 30).due("commit(-1)", 0)
            .due("changed(0)", 0).due("put(1, 15)", 4).due("changed(0)", 1)
            .due("take(3)", 30).due("changed(0)", 2).due("put(3, 31)", 4).due("changed(0)", 3)
            .reads(10, 15, 20, 31)
            .due("take(3)", 31).due("put(3, 30)", 4).due("take(1)", 15).due("changed(0)", 0);
        new Run("empty and full texts").due("commit(-1)", 0).due("changed(0)", 0)
            .write(1, 2, 3, 4, 5, 6, 7, 8, 9, 10).due("changed(0)", 10).due("commit(0)", 1)
            .write(11, 12, 13, 14, 15, 16, 17, 18, 19, 20).due("changed(1)", 20).due("changed(0)", 10)
            .write(2, 3, 4, 5, 6, 7, 8, 9, 10, 1).due("changed(1)", 2)
            .write().due("changed(1)", 10).due("changed(0)", 0);
        new Run("not held").write(1).due("commit(-1)", 0).due("commit(0)", 1).write(2)
            .refused("changed(2)").refused("changed(-1)").refused("changed(-2)").refused("changed(12)")
            .refused("changed(39)").refused("changed(40)").refused("changed(41)")
            .refused("changed(2147483647)").refused("changed(-2147483648)")
            .due("remove(0)", 1).refused("changed(0)").due("changed(1)", 2);
        Run.end();
    }
}

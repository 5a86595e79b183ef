public final class Promise10DistanceTest {
    public static void main(String[] args) {
        texts(0, new int[] {}, new int[] {});
        texts(0, new int[] {1, 2, 3}, new int[] {1, 2, 3});
        texts(3, new int[] {}, new int[] {1, 2, 3});
        texts(1, new int[] {10, 20, 30}, new int[] {10, 15, 20, 30});
        texts(2, new int[] {1, 2, 3}, new int[] {1, 9, 3});
        texts(2, new int[] {1, 2}, new int[] {2, 1});
        texts(4, new int[] {1, 2, 3}, new int[] {3, 2, 1});
        texts(2, new int[] {5, 5, 5}, new int[] {5});
        texts(4, new int[] {1, 2, 1, 2}, new int[] {2, 1, 1, 1, 2, 1});
        texts(5, new int[] {1, 2, 3, 2, 4, 1, 2}, new int[] {2, 4, 3, 1, 2, 1});
        texts(6, new int[] {1, 2, 3, 4, 5, 6, 7, 8, 9, 10}, new int[] {4, 5, 6, 7, 8, 9, 10, 1, 2, 3});
        texts(20, new int[] {0, 1, 2, 3, 4, 5, 6, 7, 8, 9}, new int[] {255, 254, 253, 252, 251, 250, 249, 248, 247, 246});
        texts(0, new int[] {0, 255, 0, 255, 0, 255, 0, 255, 0, 255}, new int[] {0, 255, 0, 255, 0, 255, 0, 255, 0, 255});
        texts(2, new int[] {0, 255, 0, 255, 0, 255, 0, 255, 0, 255}, new int[] {255, 0, 255, 0, 255, 0, 255, 0, 255, 0});
        texts(10, new int[] {}, new int[] {0, 0, 0, 0, 0, 0, 0, 0, 0, 0});
        oneObjectManyTexts();
        wrongRevisions();
        Run.end();
    }

    private static void texts(int distance, int[] one, int[] other) {
        new Run("two texts of distance " + distance)
            .write(one).due("commit(-1)", 0).write(other).due("commit(-1)", 1).write(77)
            .due("distance(0, 1)", distance).due("distance(1, 0)", distance)
            .due("distance(0, 0)", 0).due("distance(1, 1)", 0).reads(77);
    }

    private static void oneObjectManyTexts() {
        new Run("a short comparison after a long one")
            .write(1, 2, 3, 4, 5, 6, 7, 8, 9, 10).due("commit(-1)", 0)
            .write(10, 9, 8, 7, 6, 5, 4, 3, 2, 1).due("commit(0)", 1)
            .write(3).due("commit(0)", 2).write().due("commit(2)", 3)
            .due("distance(0, 1)", 18).due("distance(2, 0)", 9).due("distance(3, 2)", 1)
            .due("distance(3, 3)", 0).due("distance(1, 2)", 9).due("distance(0, 1)", 18).due("distance(1, 3)", 10);
    }

    private static void wrongRevisions() {
        new Run("what is not held").write(1).due("commit(-1)", 0).due("commit(0)", 1)
            .refused("distance(0, 2)").refused("distance(2, 0)").refused("distance(2, 2)")
            .refused("distance(-1, 0)").refused("distance(0, -1)").refused("distance(0, -2)")
            .refused("distance(40, 0)").refused("distance(0, 40)").refused("distance(39, 0)")
            .refused("distance(2147483647, 0)").refused("distance(0, -2147483648)")
            .due("remove(0)", 1).refused("distance(0, 1)").refused("distance(1, 0)").refused("distance(0, 0)")
            .due("distance(1, 1)", 0);
    }
}

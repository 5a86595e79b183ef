import java.util.ArrayList;
import java.util.List;

/** Trees of revisions for tests that go through all of them: the parent of each number, -1 for none. */
final class Forests {
    private Forests() {
    }

    /** Every tree that so many commits can make, and every row of separate trees. */
    static List<int[]> of(int revisions) {
        List<int[]> trees = new ArrayList<>();
        trees.add(new int[0]);
        for (int number = 0; number < revisions; number++) {
            List<int[]> greater = new ArrayList<>();
            for (int[] tree : trees) {
                for (int parent = -1; parent < number; parent++) {
                    greater.add(Texts.with(tree, number, parent));
                }
            }
            trees = greater;
        }
        return trees;
    }

    /** The parents when one revision is gone; its own stays where it was. */
    static int[] without(int[] parents, int removed) {
        int[] left = parents.clone();
        for (int number = 0; number < left.length; number++) {
            if (parents[number] == removed) {
                left[number] = parents[removed];
            }
        }
        return left;
    }

    /** The revision, its parent, the parent of that and so on. */
    static List<Integer> row(int[] parents, int revision) {
        List<Integer> row = new ArrayList<>();
        for (int at = revision; at >= 0; at = parents[at]) {
            row.add(at);
        }
        return row;
    }
}

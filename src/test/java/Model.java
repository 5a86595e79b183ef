import java.util.ArrayList;
import java.util.List;
import java.util.TreeMap;

/** The document once more, slow and with the Java library, so that it errs elsewhere than the program if it errs. */
final class Model {
    private static final class Revision {
        final List<Integer> text;
        Revision parent;

        Revision(List<Integer> text, Revision parent) {
            this.text = text;
            this.parent = parent;
        }
    }

    private final TreeMap<Integer, Revision> revisions = new TreeMap<>();
    private List<Integer> working = new ArrayList<>();
    private int next = 0;

    int put(int place, int line) {
        if (line < 0 || line > 255 || place < 0 || place > working.size() || working.size() == 10) {
            return -1;
        }
        working.add(place, line);
        return working.size();
    }

    int take(int place) {
        return place < 0 || place >= working.size() ? -1 : working.remove(place);
    }

    int lines() {
        return working.size();
    }

    int line(int place) {
        return place < 0 || place >= working.size() ? -1 : working.get(place);
    }

    int commit(int parent) {
        if (parent != -1 && !revisions.containsKey(parent) || revisions.size() == 12 || next == 40) {
            return -1;
        }
        revisions.put(next, new Revision(new ArrayList<>(working), revisions.get(parent)));
        return next++;
    }

    int checkout(int revision) {
        if (!revisions.containsKey(revision)) {
            return -1;
        }
        working = new ArrayList<>(revisions.get(revision).text);
        return working.size();
    }

    int remove(int revision) {
        Revision gone = revisions.remove(revision);
        if (gone == null) {
            return -1;
        }
        for (Revision other : revisions.values()) {
            if (other.parent == gone) {
                other.parent = gone.parent;
            }
        }
        return revisions.size();
    }

    int parent(int revision) {
        return revisions.containsKey(revision) ? number(revisions.get(revision).parent) : -1;
    }

    int distance(int a, int b) {
        if (!revisions.containsKey(a) || !revisions.containsKey(b)) {
            return -1;
        }
        return distance(revisions.get(a).text, revisions.get(b).text);
    }

    int changed(int revision) {
        return revisions.containsKey(revision) ? distance(working, revisions.get(revision).text) : -1;
    }

    int base(int a, int b) {
        if (!revisions.containsKey(a) || !revisions.containsKey(b)) {
            return -1;
        }
        List<Revision> common = row(a);
        common.retainAll(row(b));
        return common.isEmpty() ? -2 : number(common.get(0));
    }

    int find() {
        for (int number : revisions.keySet()) {
            if (revisions.get(number).text.equals(working)) {
                return number;
            }
        }
        return -1;
    }

    private List<Revision> row(int revision) {
        List<Revision> row = new ArrayList<>();
        for (Revision at = revisions.get(revision); at != null; at = at.parent) {
            row.add(at);
        }
        return row;
    }

    private int number(Revision revision) {
        for (int number : revisions.keySet()) {
            if (revisions.get(number) == revision) {
                return number;
            }
        }
        return -2;
    }

    /** Tries every choice of lines of the one text that stay. */
    static int distance(List<Integer> one, List<Integer> other) {
        int mostStay = 0;
        for (int choice = 0; choice < 1 << one.size(); choice++) {
            int stay = Integer.bitCount(choice);
            if (stay > mostStay && standInOrder(one, choice, other)) {
                mostStay = stay;
            }
        }
        return one.size() + other.size() - 2 * mostStay;
    }

    private static boolean standInOrder(List<Integer> one, int choice, List<Integer> other) {
        int from = 0;
        for (int i = 0; i < one.size(); i++) {
            if ((choice >> i & 1) == 1) {
                int at = other.subList(from, other.size()).indexOf(one.get(i));
                if (at < 0) {
                    return false;
                }
                from += at + 1;
            }
        }
        return true;
    }
}

import java.util.ArrayList;
import java.util.List;

/** Texts for tests that go through all of a kind. */
final class Texts {
    private static final int MOST_LINES = 4;

    private Texts() {
    }

    /** The lines 1, 2, 3 and so on. */
    static int[] count(int lines) {
        int[] text = new int[lines];
        for (int i = 0; i < lines; i++) {
            text[i] = i + 1;
        }
        return text;
    }

    static int[] with(int[] text, int place, int line) {
        List<Integer> lines = list(text);
        lines.add(place, line);
        return array(lines);
    }

    static int[] without(int[] text, int place) {
        List<Integer> lines = list(text);
        lines.remove(place);
        return array(lines);
    }

    /** Every text of at most four lines that are 1 or 2. */
    static List<int[]> small() {
        List<int[]> texts = new ArrayList<>();
        for (int lines = 0; lines <= MOST_LINES; lines++) {
            for (int choice = 0; choice < 1 << lines; choice++) {
                int[] text = new int[lines];
                for (int i = 0; i < lines; i++) {
                    text[i] = 1 + (choice >> i & 1);
                }
                texts.add(text);
            }
        }
        return texts;
    }

    static List<Integer> list(int[] text) {
        List<Integer> lines = new ArrayList<>();
        for (int line : text) {
            lines.add(line);
        }
        return lines;
    }

    private static int[] array(List<Integer> lines) {
        return lines.stream().mapToInt(Integer::intValue).toArray();
    }
}

import java.util.ArrayList;
import java.util.List;

/** An object together with the calls that were made on it. */
final class Counted {
    // The document frees every answer after this many calls, so a test that makes more proves nothing.
    static final int MOST_CALLS = 512;

    private final RevisionStore store = new RevisionStore();
    private final List<Call> made = new ArrayList<>();

    /** A new object on which all these calls have been made. */
    static Counted after(List<Call> calls) {
        Counted counted = new Counted();
        for (Call call : calls) {
            counted.make(call);
        }
        return counted;
    }

    int make(Call call) {
        if (made.size() == MOST_CALLS) {
            throw new IllegalStateException("more calls than the document allows");
        }
        made.add(call);
        return call.on(store);
    }

    List<Call> made() {
        return made;
    }
}

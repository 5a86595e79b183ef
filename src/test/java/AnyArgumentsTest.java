/** No call throws, for any arguments in any state: also after the calls whose answers the document promises. */
public final class AnyArgumentsTest {
    public static void main(String[] args) {
        for (int run = 0; run < 50; run++) {
            Numbers numbers = new Numbers(1000 + run);
            RevisionStore store = new RevisionStore();
            for (int call = 0; call < 4000; call++) {
                anyCall(store, numbers);
            }
        }
        Run.end();
    }

    private static void anyCall(RevisionStore store, Numbers numbers) {
        int kind = numbers.below(12);
        int a = argument(numbers);
        int b = argument(numbers);
        try {
            call(store, kind, a, b);
        } catch (RuntimeException thrown) {
            Run.wrong("method " + kind + " with " + a + ", " + b + " threw " + thrown, "any arguments");
        }
    }

    private static int argument(Numbers numbers) {
        return numbers.below(4) == 0 ? numbers.extreme() : numbers.below(44) - 2;
    }

    private static void call(RevisionStore store, int kind, int a, int b) {
        switch (kind) {
            case 0: store.put(a % 11, b); break;
            case 1: store.put(a, b); break;
            case 2: store.take(a); break;
            case 3: store.line(a); break;
            case 4: store.commit(a); break;
            case 5: store.commit(-1); break;
            case 6: store.checkout(a); break;
            case 7: store.remove(a); break;
            case 8: store.parent(a); break;
            case 9: store.distance(a, b); break;
            case 10: store.changed(a); break;
            default: store.base(a, b); store.find(); store.lines(); break;
        }
    }
}

/** One call as the document and the issues write it, such as "put(0, 10)", so that a told fault can be copied. */
final class Call {
    private final String method;
    private final int[] given;

    private Call(String method, int[] given) {
        this.method = method;
        this.given = given;
    }

    static Call read(String text) {
        int open = text.indexOf('(');
        String inside = text.substring(open + 1, text.length() - 1).trim();
        String[] parts = inside.isEmpty() ? new String[0] : inside.split(",");
        int[] given = new int[parts.length];
        for (int i = 0; i < parts.length; i++) {
            given[i] = Integer.parseInt(parts[i].trim());
        }
        return new Call(text.substring(0, open) + "/" + given.length, given);
    }

    int on(RevisionStore store) {
        switch (method) {
            case "put/2": return store.put(given[0], given[1]);
            case "take/1": return store.take(given[0]);
            case "lines/0": return store.lines();
            case "line/1": return store.line(given[0]);
            case "commit/1": return store.commit(given[0]);
            case "checkout/1": return store.checkout(given[0]);
            case "remove/1": return store.remove(given[0]);
            case "parent/1": return store.parent(given[0]);
            case "distance/2": return store.distance(given[0], given[1]);
            case "changed/1": return store.changed(given[0]);
            case "base/2": return store.base(given[0], given[1]);
            case "find/0": return store.find();
            default: throw new IllegalArgumentException("no such call: " + method);
        }
    }
}

/** Above each test stands the sentence of the document that it tests. */
public final class Promise04LinesTest {
    public static void main(String[] args) {
        followsPutAndTake();
        staysAtRefusedCalls();
        followsCheckout();
        asksOnly();
        Run.end();
    }

    // "The number of lines of the working text.": from empty to full and back
    private static void followsPutAndTake() {
        Run run = new Run("lines follows put and take").due("lines()", 0);
        for (int count = 1; count <= 10; count++) {
            run.due("put(0, " + count + ")", count).due("lines()", count).due("lines()", count);
        }
        for (int count = 9; count >= 0; count--) {
            run.due("take(" + count + ")", 10 - count).due("lines()", count);
        }
    }

    // "The number of lines of the working text.": a refused call at either end changes nothing
    private static void staysAtRefusedCalls() {
        new Run("not below 0").refused("take(0)").due("lines()", 0);
        new Run("not above 10").write(1, 2, 3, 4, 5, 6, 7, 8, 9, 10).refused("put(10, 1)").due("lines()", 10);
        new Run("as before a wrong line").write(1).refused("put(0, 256)").due("lines()", 1);
    }

    // "of the working text": not of a revision
    private static void followsCheckout() {
        new Run("lines follows checkout and not commit or remove").write(1, 2, 3)
            .due("commit(-1)", 0).due("lines()", 3).due("take(0)", 1).due("lines()", 2)
            .due("commit(0)", 1).due("checkout(0)", 3).due("lines()", 3)
            .due("checkout(1)", 2).due("lines()", 2).due("checkout(7)", -1).due("lines()", 2)
            .due("remove(1)", 1).due("lines()", 2).due("remove(0)", 0).due("lines()", 2);
        new Run("checkout of an empty and of a full text").due("commit(-1)", 0)
            .write(1, 2, 3, 4, 5, 6, 7, 8, 9, 10).due("commit(-1)", 1)
            .due("checkout(0)", 0).due("lines()", 0).due("checkout(1)", 10).due("lines()", 10);
    }

    // "Nothing is promised beyond the answers and state changes described above": this call has none
    private static void asksOnly() {
        new Run("lines changes nothing").asked("lines()", 0).write(1, 2, 3).due("commit(-1)", 0)
            .due("take(0)", 1).due("commit(0)", 1).asked("lines()", 2)
            .write(1, 2, 3, 4, 5, 6, 7, 8, 9, 10).asked("lines()", 10).asked("lines()", 10);
    }
}

/** Above each test stands the sentence of the document that it tests. */
public final class Promise10DistanceTest {
    public static void main(String[] args) {
        ordinaryTexts();
        equalTexts();
        emptyTexts();
        fullTexts();
        sameRevisionTwice();
        oneObjectManyTexts();
        lastNumber();
        everyNumber();
        firstNotHeld();
        secondNotHeld();
        bothNotHeld();
        oneRemoved();
        everyPairOfSmallTexts();
        linesThatDifferLittle();
        asksOnly();
        Run.end();
    }

    private static void texts(int distance, int[] one, int[] other) {
        new Run("two texts of distance " + distance)
            .write(one).due("commit(-1)", 0).write(other).due("commit(-1)", 1).write(77)
            .due("distance(0, 1)", distance).due("distance(1, 0)", distance)
            .due("distance(0, 0)", 0).due("distance(1, 1)", 0).reads(77);
    }

    // "The distance of the texts of the two revisions"
    private static void ordinaryTexts() {
        texts(1, new int[] {10, 20, 30}, new int[] {10, 15, 20, 30});
        texts(2, new int[] {1, 2, 3}, new int[] {1, 9, 3});
        texts(2, new int[] {1, 2}, new int[] {2, 1});
        texts(4, new int[] {1, 2, 3}, new int[] {3, 2, 1});
        texts(2, new int[] {5, 5, 5}, new int[] {5});
        texts(4, new int[] {1, 2, 1, 2}, new int[] {2, 1, 1, 1, 2, 1});
        texts(5, new int[] {1, 2, 3, 2, 4, 1, 2}, new int[] {2, 4, 3, 1, 2, 1});
    }

    // "The distance of the texts": the least there is
    private static void equalTexts() {
        texts(0, new int[] {1, 2, 3}, new int[] {1, 2, 3});
        texts(0, new int[] {0}, new int[] {0});
        texts(0, new int[] {0, 255, 0, 255, 0, 255, 0, 255, 0, 255}, new int[] {0, 255, 0, 255, 0, 255, 0, 255, 0, 255});
    }

    // "The distance of the texts": of texts without lines
    private static void emptyTexts() {
        texts(0, new int[] {}, new int[] {});
        texts(1, new int[] {}, new int[] {0});
        texts(3, new int[] {}, new int[] {1, 2, 3});
        texts(10, new int[] {}, new int[] {0, 0, 0, 0, 0, 0, 0, 0, 0, 0});
    }

    // "The distance of the texts": of texts with ten lines, up to the greatest there is
    private static void fullTexts() {
        texts(6, new int[] {1, 2, 3, 4, 5, 6, 7, 8, 9, 10}, new int[] {4, 5, 6, 7, 8, 9, 10, 1, 2, 3});
        texts(20, new int[] {0, 1, 2, 3, 4, 5, 6, 7, 8, 9}, new int[] {255, 254, 253, 252, 251, 250, 249, 248, 247, 246});
        texts(2, new int[] {0, 255, 0, 255, 0, 255, 0, 255, 0, 255}, new int[] {255, 0, 255, 0, 255, 0, 255, 0, 255, 0});
        texts(2, new int[] {1, 2, 3, 4, 5, 6, 7, 8, 9, 10}, new int[] {1, 2, 3, 4, 5, 6, 7, 8, 9, 0});
        texts(2, new int[] {1, 2, 3, 4, 5, 6, 7, 8, 9, 10}, new int[] {0, 2, 3, 4, 5, 6, 7, 8, 9, 10});
    }

    // "of the two revisions": both may be the same one
    private static void sameRevisionTwice() {
        new Run("a revision and itself").due("commit(-1)", 0).write(1, 2, 3, 4, 5, 6, 7, 8, 9, 10)
            .due("commit(0)", 1).write(3).due("distance(0, 0)", 0).due("distance(1, 1)", 0);
    }

    // "The distance of the texts": whatever was compared before
    private static void oneObjectManyTexts() {
        new Run("a short comparison after a long one")
            .write(1, 2, 3, 4, 5, 6, 7, 8, 9, 10).due("commit(-1)", 0)
            .write(10, 9, 8, 7, 6, 5, 4, 3, 2, 1).due("commit(0)", 1)
            .write(3).due("commit(0)", 2).write().due("commit(2)", 3)
            .due("distance(0, 1)", 18).due("distance(2, 0)", 9).due("distance(3, 2)", 1)
            .due("distance(3, 3)", 0).due("distance(1, 2)", 9).due("distance(0, 1)", 18).due("distance(1, 3)", 10);
    }

    // "of the two revisions": the first and the last that can be made
    private static void lastNumber() {
        Run run = new Run("numbers 0 and 39").write(1, 2, 3).due("commit(-1)", 0);
        for (int number = 1; number < 39; number++) {
            run.due("commit(0)", number).due("remove(" + number + ")", 1);
        }
        run.due("take(1)", 2).due("commit(0)", 39).write(8, 8)
            .due("distance(0, 39)", 1).due("distance(39, 0)", 1).due("distance(39, 39)", 0)
            .refused("distance(39, 40)").refused("distance(38, 39)");
    }

    // "of the two revisions": whichever of the forty they are
    private static void everyNumber() {
        Run run = new Run("numbers 0 to 39").write(1, 2).due("commit(-1)", 0).write(2, 3, 4).due("distance(0, 0)", 0);
        for (int number = 1; number < 40; number++) {
            run.due("commit(-1)", number).due("distance(0, " + number + ")", 3);
            run.due("distance(" + number + ", 0)", 3).due("distance(" + number + ", " + number + ")", 0);
            run.due("remove(" + number + ")", 1);
        }
    }

    private static Run twoHeld(String name) {
        return new Run(name).write(1).due("commit(-1)", 0).due("commit(0)", 1);
    }

    // "or -1 if one is not held": the first of the two
    private static void firstNotHeld() {
        twoHeld("the first is not held").refused("distance(2, 0)").refused("distance(39, 0)")
            .refused("distance(40, 0)").refused("distance(41, 1)").refused("distance(2147483647, 0)")
            .refused("distance(-1, 0)").refused("distance(-2, 0)").refused("distance(-2147483648, 1)");
    }

    // "or -1 if one is not held": the second of the two
    private static void secondNotHeld() {
        twoHeld("the second is not held").refused("distance(0, 2)").refused("distance(0, 39)")
            .refused("distance(0, 40)").refused("distance(1, 41)").refused("distance(0, 2147483647)")
            .refused("distance(0, -1)").refused("distance(0, -2)").refused("distance(1, -2147483648)");
    }

    // "or -1 if one is not held": both, also if both are the same number
    private static void bothNotHeld() {
        twoHeld("both are not held").refused("distance(2, 2)").refused("distance(2, 3)").refused("distance(-1, -1)")
            .refused("distance(40, 40)").refused("distance(-1, 40)");
        new Run("none made yet").refused("distance(0, 0)").refused("distance(-1, -1)");
    }

    // "or -1 if one is not held": held no more
    private static void oneRemoved() {
        twoHeld("one was removed").due("remove(0)", 1).refused("distance(0, 1)").refused("distance(1, 0)")
            .refused("distance(0, 0)").due("distance(1, 1)", 0);
    }

    // "The distance of the texts": as found by trying every choice of lines that stay
    private static void everyPairOfSmallTexts() {
        for (int[] one : Texts.small()) {
            for (int[] other : Texts.small()) {
                texts(Model.distance(Texts.list(one), Texts.list(other)), one, other);
            }
        }
    }

    // "all other lines stay": only lines that are equal in all their bits can
    private static void linesThatDifferLittle() {
        for (int bit = 1; bit <= 128; bit *= 2) {
            texts(2, new int[] {0}, new int[] {bit});
            texts(2, new int[] {255}, new int[] {255 - bit});
            texts(4, new int[] {7, bit, 7, 0, 7}, new int[] {7, 0, 7, bit, 7});
        }
    }

    // "Nothing is promised beyond the answers and state changes described above": this call has none
    private static void asksOnly() {
        new Run("distance changes nothing").write(1, 2, 3).due("commit(-1)", 0).write(3, 4).due("commit(0)", 1)
            .write(5, 6, 7, 8).asked("distance(0, 1)", 3).asked("distance(1, 0)", 3).asked("distance(1, 1)", 0)
            .asked("distance(0, 1)", 3);
    }
}

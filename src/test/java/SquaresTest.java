/** Promises 9 to 14: levels, nodes, children and searches. */
public final class SquaresTest {
    public static void main(String[] args) {
        level();
        levelOfEquals();
        node();
        emptyWhole();
        child();
        search();
        searchOutside();
        searchDeep();
        worst();
        wouldTouch();
        Check.close("SquaresTest");
    }

    /**
     * Level 0 has the nodes 0 (0, 0) of 64, 1 (0, 0) of 16, 2 (0, 0) of 2, 3 (12, 12) of 4, 4 (32, 32) of 32;
     * level 1 has 0 (0, 0) of 64 and 1 (0, 0) of 16; level 2 has the whole alone.
     */
    private static SkipQuadtree sample() {
        SkipQuadtree t = new SkipQuadtree();
        t.add(0, 0, 0);
        t.add(1, 1, 0);
        t.add(2, 15, 15);
        t.add(3, 12, 13);
        t.add(4, 32, 40);
        t.add(6, 63, 33);
        return t;
    }

    private static void dueLevel(SkipQuadtree t, int level, int... wants) {
        for (int what = 0; what < 5; what++) {
            int asked = what;
            Check.due("level(" + level + ", " + what + ")", wants[what], () -> t.level(level, asked));
        }
    }

    /** Promise 9. */
    private static void level() {
        SkipQuadtree t = sample();
        dueLevel(t, 0, 6, 5, 2, 6, 6);
        dueLevel(t, 1, 2, 2, 1, 2, 2);
        dueLevel(t, 2, 1, 1, 0, 1, 1);
        dueLevel(t, 3, 0, 1, 0, 0, 0);
        dueLevel(t, 4, 0, 1, 0, 0, 0);
        Check.noIndex(t, "level(-1, 0)", () -> t.level(-1, 0));
        Check.noIndex(t, "level(5, 5)", () -> t.level(5, 5));
        Check.badArgument(t, "level(0, -1)", () -> t.level(0, -1));
        Check.badArgument(t, "level(4, 5)", () -> t.level(4, 5));
    }

    /** From points that are all at (0, 0): makes a square of each size in the next greater one. */
    private static void spread(SkipQuadtree t) {
        t.move(15, 1, 0);
        t.move(23, 2, 0);
        t.move(7, 4, 0);
        t.move(3, 8, 0);
        t.move(11, 16, 0);
        t.move(19, 32, 0);
    }

    private static void levelOfEquals() {
        SkipQuadtree t = new SkipQuadtree();
        t.scatter(0, 24, 1, 5);
        dueLevel(t, 0, 24, 1, 0, 1, 1);
        dueLevel(t, 1, 12, 1, 0, 1, 1);
        dueLevel(t, 2, 6, 1, 0, 1, 1);
        dueLevel(t, 3, 3, 1, 0, 1, 1);
        dueLevel(t, 4, 1, 1, 0, 1, 1);
        spread(t);
        dueLevel(t, 0, 24, 6, 5, 7, 7);
        dueLevel(t, 2, 6, 5, 4, 6, 6);
        dueLevel(t, 3, 3, 3, 2, 3, 3);
    }

    private static void dueNode(SkipQuadtree t, int level, int index, int... wants) {
        for (int what = 0; what < 6; what++) {
            int asked = what;
            Check.due("node(" + level + ", " + index + ", " + what + ")", wants[what], () -> t.node(level, index, asked));
        }
    }

    /** Promise 10. */
    private static void node() {
        SkipQuadtree t = sample();
        dueNode(t, 0, 0, 0, 0, 64, 0, 6, 2);
        dueNode(t, 0, 1, 0, 0, 16, 1, 4, 2);
        dueNode(t, 0, 2, 0, 0, 2, 2, 2, 2);
        dueNode(t, 0, 3, 12, 12, 4, 2, 2, 2);
        dueNode(t, 0, 4, 32, 32, 32, 1, 2, 2);
        dueNode(t, 1, 1, 0, 0, 16, 1, 2, 2);
        dueNode(t, 2, 0, 0, 0, 64, 0, 1, 1);
        Check.noIndex(t, "node(-1, 0, 0)", () -> t.node(-1, 0, 0));
        Check.noIndex(t, "node(5, 0, 0)", () -> t.node(5, 0, 0));
        Check.noIndex(t, "node(0, -1, 0)", () -> t.node(0, -1, 0));
        Check.noIndex(t, "node(0, 5, 6)", () -> t.node(0, 5, 6));
        Check.noIndex(t, "node(1, 2, 0)", () -> t.node(1, 2, 0));
        Check.badArgument(t, "node(0, 4, -1)", () -> t.node(0, 4, -1));
        Check.badArgument(t, "node(0, 4, 6)", () -> t.node(0, 4, 6));
        t.scatter(0, 24, 64, 77);
        Check.due("a whole with points in all quadrants", 4, () -> t.node(0, 0, 5));
        Check.due("a whole with all points", 24, () -> t.node(0, 0, 4));
    }

    private static void emptyWhole() {
        SkipQuadtree t = new SkipQuadtree();
        dueNode(t, 0, 0, 0, 0, 64, 0, 0, 0);
        dueNode(t, 4, 0, 0, 0, 64, 0, 0, 0);
        Check.due("child of an empty whole", -1, () -> t.child(4, 0, 3));
        Check.noIndex(t, "node(0, 1, 0) of an empty level", () -> t.node(0, 1, 0));
    }

    private static void dueChildren(SkipQuadtree t, int level, int index, int... wants) {
        for (int quadrant = 0; quadrant < 4; quadrant++) {
            int asked = quadrant;
            Check.due("child(" + level + ", " + index + ", " + quadrant + ")", wants[quadrant],
                () -> t.child(level, index, asked));
        }
    }

    /** Promise 11. */
    private static void child() {
        SkipQuadtree t = sample();
        dueChildren(t, 0, 0, 1, -1, -1, 4);
        dueChildren(t, 0, 1, 2, -1, -1, 3);
        dueChildren(t, 0, 2, 1000, 1001, -1, -1);
        dueChildren(t, 0, 3, 1000 + 64 * 13 + 12, -1, -1, 1000 + 64 * 15 + 15);
        dueChildren(t, 0, 4, 1000 + 64 * 40 + 32, 1000 + 64 * 33 + 63, -1, -1);
        dueChildren(t, 1, 0, 1, -1, -1, -1);
        dueChildren(t, 2, 0, 1000 + 64 * 13 + 12, -1, -1, -1);
        Check.noIndex(t, "child(-1, 0, 0)", () -> t.child(-1, 0, 0));
        Check.noIndex(t, "child(5, 0, 4)", () -> t.child(5, 0, 4));
        Check.noIndex(t, "child(0, 5, 0)", () -> t.child(0, 5, 0));
        Check.noIndex(t, "child(0, -1, 0)", () -> t.child(0, -1, 0));
        Check.badArgument(t, "child(0, 0, -1)", () -> t.child(0, 0, -1));
        Check.badArgument(t, "child(0, 0, 4)", () -> t.child(0, 0, 4));
        t.add(5, 10, 50);
        t.add(8, 10, 50);
        Check.due("child of several points on one position", 1000 + 64 * 50 + 10, () -> t.child(0, 0, 2));
    }

    private static void dueSearch(SkipQuadtree t, int x, int y, boolean skip, int... wants) {
        for (int what = 0; what < 3; what++) {
            int asked = what;
            Check.due("search(" + x + ", " + y + ", " + skip + ", " + what + ")", wants[what],
                () -> t.search(x, y, skip, asked));
        }
    }

    /** Promise 12. */
    private static void search() {
        SkipQuadtree t = sample();
        dueSearch(t, 1, 0, false, 2, 2, 2);
        dueSearch(t, 1, 0, true, 4, 2, 2);
        dueSearch(t, 12, 12, false, 2, 3, 4);
        dueSearch(t, 50, 50, false, 1, 4, 32);
        dueSearch(t, 50, 50, true, 3, 4, 32);
        dueSearch(t, 40, 3, false, 0, 0, 64);
        Check.badArgument(t, "search(-1, 0, true, 0)", () -> t.search(-1, 0, true, 0));
        Check.badArgument(t, "search(64, 0, true, 0)", () -> t.search(64, 0, true, 0));
        Check.badArgument(t, "search(0, -1, true, 0)", () -> t.search(0, -1, true, 0));
        Check.badArgument(t, "search(0, 64, true, 0)", () -> t.search(0, 64, true, 0));
        Check.badArgument(t, "search(0, 0, false, -1)", () -> t.search(0, 0, false, -1));
        Check.badArgument(t, "search(0, 0, false, 3)", () -> t.search(0, 0, false, 3));
    }

    /** A child may be a node that does not contain the position; then a search stays above it. */
    private static void searchOutside() {
        SkipQuadtree t = sample();
        dueSearch(t, 20, 20, false, 0, 0, 64);
        dueSearch(t, 9, 9, false, 1, 1, 16);
        dueSearch(t, 9, 9, true, 3, 1, 16);
        dueSearch(new SkipQuadtree(), 5, 5, true, 0, 0, 64);
        t.add(15, 62, 62);
        dueSearch(t, 1, 0, true, 6, 2, 2);
    }

    /** A square may have another number in each level, and the deepest search takes five steps in one level. */
    private static void searchDeep() {
        SkipQuadtree t = new SkipQuadtree();
        t.add(0, 0, 0);
        t.add(2, 1, 0);
        t.add(1, 40, 40);
        t.add(3, 60, 60);
        t.add(5, 0, 40);
        t.add(4, 2, 41);
        t.add(6, 34, 34);
        dueSearch(t, 60, 60, true, 3, 3, 32);
        dueSearch(t, 34, 34, true, 4, 4, 16);
        dueSearch(t, 2, 41, true, 3, 2, 4);
        t.scatter(0, 24, 1, 0);
        spread(t);
        dueSearch(t, 0, 0, false, 5, 5, 2);
        dueSearch(t, 0, 0, true, 7, 5, 2);
        dueSearch(t, 5, 7, false, 3, 3, 8);
        Check.due("worst(false) of five squares in one another", 5, () -> t.worst(false));
    }

    /** Promise 13. */
    private static void worst() {
        SkipQuadtree t = new SkipQuadtree();
        Check.due("worst(true) without points", 0, () -> t.worst(true));
        Check.due("worst(false) without points", 0, () -> t.worst(false));
        t.add(15, 9, 9);
        Check.due("worst(true) with one point of height 4", 4, () -> t.worst(true));
        Check.due("worst(false) with one point of height 4", 0, () -> t.worst(false));
        SkipQuadtree s = sample();
        Check.due("worst(true)", 4, () -> s.worst(true));
        Check.due("worst(false)", 2, () -> s.worst(false));
        s.remove(0);
        s.remove(3);
        Check.due("worst(false) without the deepest", 1, () -> s.worst(false));
        Check.due("worst(true) without the deepest", 2, () -> s.worst(true));
    }

    /** Promise 14. */
    private static void wouldTouch() {
        SkipQuadtree t = sample();
        t.undo();
        long before = t.digest();
        Check.due("wouldTouch(3, 40, 50)", 3, () -> t.wouldTouch(3, 40, 50));
        Check.due("wouldTouch(3, 12, 13)", 0, () -> t.wouldTouch(3, 12, 13));
        Check.due("wouldTouch(2, 63, 63)", 2, () -> t.wouldTouch(2, 63, 63));
        Check.due("digest() after it", before, t::digest);
        Check.due("move(3, 40, 50)", 3, () -> t.move(3, 40, 50));
        Check.noIndex(t, "wouldTouch(-1, 64, 0)", () -> t.wouldTouch(-1, 64, 0));
        Check.noIndex(t, "wouldTouch(24, 0, 0)", () -> t.wouldTouch(24, 0, 0));
        Check.badArgument(t, "wouldTouch(1, -1, 0)", () -> t.wouldTouch(1, -1, 0));
        Check.badArgument(t, "wouldTouch(1, 64, 0)", () -> t.wouldTouch(1, 64, 0));
        Check.badArgument(t, "wouldTouch(1, 0, 64)", () -> t.wouldTouch(1, 0, 64));
        Check.badArgument(t, "wouldTouch(20, 0, -1) of no point", () -> t.wouldTouch(20, 0, -1));
        Check.badState(t, "wouldTouch(20, 0, 0) of no point", () -> t.wouldTouch(20, 0, 0));
    }
}

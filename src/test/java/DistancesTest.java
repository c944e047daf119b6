/** Promises 15 to 20: cursors, ranks, ranges and closest pairs. */
public final class DistancesTest {
    public static void main(String[] args) {
        open();
        next();
        nextAfterChanges();
        cursor();
        lastPairOfZeros();
        nodesBeside();
        cursorRefuses();
        nearest();
        within();
        closest();
        Check.close("DistancesTest");
    }

    /** The distances to (10, 10) are: id 2 0, ids 1 and 7 25, id 4 and 9 100, id 0 1700. */
    private static SkipQuadtree sample() {
        SkipQuadtree t = new SkipQuadtree();
        t.add(0, 50, 20);
        t.add(1, 13, 14);
        t.add(2, 10, 10);
        t.add(4, 10, 20);
        t.add(7, 6, 7);
        t.add(9, 0, 10);
        return t;
    }

    /** Promise 15. */
    private static void open() {
        SkipQuadtree t = new SkipQuadtree();
        Check.due("open(0, 5, 6) without points", 0, () -> t.open(0, 5, 6));
        SkipQuadtree s = sample();
        Check.due("open(3, 63, 0)", 6, () -> s.open(3, 63, 0));
        Check.due("cursor(3, 0)", 63, () -> s.cursor(3, 0));
        Check.due("cursor(3, 1)", 0, () -> s.cursor(3, 1));
        s.next(3);
        Check.due("open(3, 10, 11)", 6, () -> s.open(3, 10, 11));
        Check.due("the last id of a cursor that is opened again", -1, () -> s.cursor(3, 3));
        Check.noIndex(s, "open(-1, 64, 0)", () -> s.open(-1, 64, 0));
        Check.noIndex(s, "open(4, 0, 0)", () -> s.open(4, 0, 0));
        Check.badArgument(s, "open(0, -1, 0)", () -> s.open(0, -1, 0));
        Check.badArgument(s, "open(0, 64, 0)", () -> s.open(0, 64, 0));
        Check.badArgument(s, "open(0, 0, -1)", () -> s.open(0, 0, -1));
        Check.badArgument(s, "open(0, 0, 64)", () -> s.open(0, 0, 64));
        Check.due("undo() of an open", 3, s::undo);
        Check.due("the center after it", 63, () -> s.cursor(3, 0));
        Check.due("the last id after it", 0, () -> s.cursor(3, 3));
    }

    /** Promise 16. */
    private static void next() {
        SkipQuadtree t = sample();
        t.open(1, 10, 10);
        int[] wants = {2, 1, 7, 4, 9, 0, -1, -1};
        for (int k = 0; k < wants.length; k++) {
            Check.due("next(1), call " + k, wants[k], () -> t.next(1));
        }
        Check.due("the last id after the end", 0, () -> t.cursor(1, 3));
        Check.due("undo() of a next that gave NONE", 3, t::undo);
        Check.due("undo() of another", 2, t::undo);
        Check.due("undo() of the last that gave a point", 1, t::undo);
        Check.due("the last id then", 9, () -> t.cursor(1, 3));
        Check.due("next(1) again", 0, () -> t.next(1));
        Check.due("next(0), from (0, 0)", 7, () -> t.next(0));
        Check.noIndex(t, "next(-1)", () -> t.next(-1));
        Check.noIndex(t, "next(4)", () -> t.next(4));
        SkipQuadtree empty = new SkipQuadtree();
        Check.due("next(3) without points", -1, () -> empty.next(3));
        Check.due("undo() of it", 0, empty::undo);
    }

    /** A cursor compares with its last pair as it was, not with the point as it is now. */
    private static void nextAfterChanges() {
        SkipQuadtree t = sample();
        t.open(0, 10, 10);
        t.next(0);
        t.next(0);
        t.move(1, 10, 20);
        Check.due("next point at the same distance with a higher id", 7, () -> t.next(0));
        Check.due("a point that moved away comes again", 1, () -> t.next(0));
        t.remove(4);
        Check.due("a removed point does not come", 9, () -> t.next(0));
        t.move(0, 10, 10);
        Check.due("a point that moved near does not come", -1, () -> t.next(0));
        t.add(23, 10, 20);
        Check.due("an added point comes", 23, () -> t.next(0));
    }

    /** Promise 17. */
    private static void cursor() {
        SkipQuadtree t = sample();
        t.open(2, 10, 11);
        int[] fresh = {10, 11, -1, -1, 6, 0};
        for (int what = 0; what < 6; what++) {
            int asked = what;
            Check.due("fresh cursor(2, " + what + ")", fresh[what], () -> t.cursor(2, asked));
        }
        t.next(2);
        t.next(2);
        int[] second = {10, 11, 18, 1, 4};
        for (int what = 0; what < 5; what++) {
            int asked = what;
            Check.due("cursor(2, " + what + ")", second[what], () -> t.cursor(2, asked));
        }
        nodesWithin();
    }

    /** The nodes are the whole, (0, 0) of 4 and (32, 32) of 4; (35, 3) is 32 from the first and 841 from the other. */
    private static void nodesWithin() {
        SkipQuadtree t = new SkipQuadtree();
        t.add(0, 0, 0);
        t.add(2, 3, 3);
        t.add(4, 32, 32);
        t.add(6, 35, 35);
        t.add(8, 50, 3);
        t.open(0, 35, 3);
        t.next(0);
        Check.due("nodes within 225", 1, () -> t.cursor(0, 5));
        t.next(0);
        Check.due("nodes within 850", 2, () -> t.cursor(0, 5));
        t.next(0);
        Check.due("nodes within 1024", 3, () -> t.cursor(0, 5));
        t.open(1, 1, 2);
        t.next(1);
        Check.due("nodes that contain the center", 2, () -> t.cursor(1, 5));
        t.open(2, 6, 3);
        t.next(2);
        Check.due("nodes at just the last distance", 2, () -> t.cursor(2, 5));
        Check.due("that distance", 9, () -> t.cursor(2, 2));
        t.move(8, 2, 0);
        Check.due("last distance after the point moved", 9, () -> t.cursor(2, 2));
        Check.due("pairs after it", 4, () -> t.cursor(2, 4));
    }

    /** The least pair there can be, the distance 0 with the id 0, is not the same as none. */
    private static void lastPairOfZeros() {
        SkipQuadtree t = new SkipQuadtree();
        t.add(0, 7, 8);
        t.add(1, 7, 8);
        t.open(0, 7, 8);
        Check.due("pairs before the first", 2, () -> t.cursor(0, 4));
        Check.due("next(0) at the center", 0, () -> t.next(0));
        int[] wants = {7, 8, 0, 0, 1, 1};
        for (int what = 0; what < 6; what++) {
            int asked = what;
            Check.due("cursor(0, " + what + ") of the least pair", wants[what], () -> t.cursor(0, asked));
        }
        Check.due("nearest(7, 8, 0)", 0, () -> t.nearest(7, 8, 0));
        Check.due("nearest(7, 8, 1)", 1, () -> t.nearest(7, 8, 1));
        Check.due("next(0) again", 1, () -> t.next(0));
    }

    /** The node (16, 16) of 4 is 9 away from each center, which is one more than the last distance. */
    private static void nodesBeside() {
        int[][] centers = {{22, 16}, {13, 16}, {16, 22}, {16, 13}};
        int[][] points = {{24, 18}, {11, 14}, {18, 24}, {14, 11}};
        for (int k = 0; k < 4; k++) {
            SkipQuadtree t = new SkipQuadtree();
            t.add(0, 16, 16);
            t.add(2, 19, 19);
            t.add(4, points[k][0], points[k][1]);
            t.open(0, centers[k][0], centers[k][1]);
            Check.due("next(0) beside the node, center " + k, 4, () -> t.next(0));
            Check.due("its distance, center " + k, 8, () -> t.cursor(0, 2));
            int all = t.level(0, 1);
            Check.due("all nodes but that one, center " + k, all - 1, () -> t.cursor(0, 5));
            t.remove(4);
            Check.due("next(0) of the node, center " + k, k % 2 == 0 ? 2 : 0, () -> t.next(0));
            Check.due("that node too, center " + k, 2, () -> t.cursor(0, 5));
        }
    }

    private static void cursorRefuses() {
        SkipQuadtree t = sample();
        Check.noIndex(t, "cursor(-1, 0)", () -> t.cursor(-1, 0));
        Check.noIndex(t, "cursor(4, 6)", () -> t.cursor(4, 6));
        Check.badArgument(t, "cursor(0, -1)", () -> t.cursor(0, -1));
        Check.badArgument(t, "cursor(3, 6)", () -> t.cursor(3, 6));
    }

    /** Promise 18. */
    private static void nearest() {
        SkipQuadtree t = sample();
        int[] wants = {2, 1, 7, 4, 9, 0, -1, -1};
        for (int rank = 0; rank < wants.length; rank++) {
            int asked = rank;
            Check.due("nearest(10, 10, " + rank + ")", wants[rank], () -> t.nearest(10, 10, asked));
        }
        Check.due("nearest of the highest rank", -1, () -> t.nearest(10, 10, Integer.MAX_VALUE));
        Check.due("nearest(63, 63, 0)", 0, () -> t.nearest(63, 63, 0));
        Check.due("nearest without points", -1, () -> new SkipQuadtree().nearest(0, 0, 0));
        Check.badArgument(t, "nearest(-1, 0, 0)", () -> t.nearest(-1, 0, 0));
        Check.badArgument(t, "nearest(64, 0, 0)", () -> t.nearest(64, 0, 0));
        Check.badArgument(t, "nearest(0, -1, 0)", () -> t.nearest(0, -1, 0));
        Check.badArgument(t, "nearest(0, 64, 0)", () -> t.nearest(0, 64, 0));
        Check.badArgument(t, "nearest(0, 0, -1)", () -> t.nearest(0, 0, -1));
        Check.badArgument(t, "nearest(0, 0, lowest int)", () -> t.nearest(0, 0, Integer.MIN_VALUE));
    }

    /** Promise 19. */
    private static void within() {
        SkipQuadtree t = sample();
        Check.due("within all", 6, () -> t.within(0, 0, 63, 63));
        Check.due("within with points on its borders", 3, () -> t.within(6, 7, 13, 14));
        Check.due("within one less on the left", 2, () -> t.within(7, 7, 13, 14));
        Check.due("within one less below", 2, () -> t.within(6, 8, 13, 14));
        Check.due("within one less on the right", 2, () -> t.within(6, 7, 12, 14));
        Check.due("within one less above", 2, () -> t.within(6, 7, 13, 13));
        Check.due("within a single position", 1, () -> t.within(10, 10, 10, 10));
        Check.due("within with x turned round", 0, () -> t.within(13, 7, 6, 14));
        Check.due("within with y turned round", 0, () -> t.within(6, 14, 13, 7));
        for (int value : new int[] {-1, 64}) {
            Check.badArgument(t, "within(" + value + ", 0, 0, 0)", () -> t.within(value, 0, 0, 0));
            Check.badArgument(t, "within(0, " + value + ", 0, 0)", () -> t.within(0, value, 0, 0));
            Check.badArgument(t, "within(0, 0, " + value + ", 0)", () -> t.within(0, 0, value, 0));
            Check.badArgument(t, "within(0, 0, 0, " + value + ")", () -> t.within(0, 0, 0, value));
        }
        Check.badArgument(t, "within(5, 5, 0, -1)", () -> t.within(5, 5, 0, -1));
    }

    private static void dueClosest(SkipQuadtree t, int... wants) {
        for (int what = 0; what < 3; what++) {
            int asked = what;
            Check.due("closest(" + what + ")", wants[what], () -> t.closest(asked));
        }
    }

    /** Promise 20. */
    private static void closest() {
        SkipQuadtree t = new SkipQuadtree();
        dueClosest(t, -1, -1, -1);
        t.add(20, 5, 5);
        dueClosest(t, -1, -1, -1);
        t.add(9, 63, 63);
        dueClosest(t, 6728, 9, 20);
        t.add(22, 5, 8);
        dueClosest(t, 9, 20, 22);
        t.add(21, 8, 5);
        dueClosest(t, 9, 20, 21);
        t.add(2, 8, 8);
        dueClosest(t, 9, 2, 21);
        t.add(0, 63, 63);
        dueClosest(t, 0, 0, 9);
        Check.badArgument(t, "closest(-1)", () -> t.closest(-1));
        Check.badArgument(t, "closest(3)", () -> t.closest(3));
    }
}

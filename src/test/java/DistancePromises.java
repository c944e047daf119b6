/** Promises 15 to 20: cursors, ranks, ranges and closest pairs. */
final class DistancePromises {
    private DistancePromises() {
    }

    static void tests() {
        open();
        next();
        cursor();
        nearest();
        within();
        closest();
    }

    private static void open() {
        Promise.test(15, "Sets a cursor to a center; it has no last pair then.", DistancePromises::openStands);
        Promise.test(15, "Undoable.", DistancePromises::openUndoable);
        Promise.test(15, "- `cursor`: 0 to 3", DistancePromises::openCursors);
        Promise.test(15, "- `x`: 0 to 63", DistancePromises::openXs);
        Promise.test(15, "- `y`: 0 to 63", DistancePromises::openYs);
        Promise.test(15, "Returns the number of points that exist.", DistancePromises::openAnswers);
        Promise.test(15, "Throws `IndexOutOfBoundsException` if there is no such cursor",
            DistancePromises::openOutside);
        Promise.test(15, "Throws `IllegalArgumentException` if x or y is out of range",
            DistancePromises::openArguments);
        Promise.test(15, Promise.ALL_EXCEPTIONS, DistancePromises::openOrder);
        Promise.test(15, "There are four cursors, numbered from 0.", DistancePromises::fourCursors);
    }

    private static void next() {
        Promise.test(16, "Moves a cursor to its next point: the pair of this point becomes its last pair.",
            DistancePromises::nextStands);
        Promise.test(16, "Undoable.", DistancePromises::nextUndoable);
        Promise.test(16, "- `cursor`: 0 to 3", DistancePromises::nextCursors);
        Promise.test(16, "Returns the id of the point; NONE if there is none (then the last pair stays).",
            DistancePromises::nextOfNone);
        Promise.test(16, "Throws `IndexOutOfBoundsException` if there is no such cursor",
            DistancePromises::nextOutside);
        Promise.test(16, Promise.NONE_LAST, DistancePromises::nextNoneLast);
        Promise.test(16,
            "The pairs of a cursor are, for all points that exist, the distances of the center and the point, "
            + "each with the id; they are ordered by the distance, and for equal distances by the id.",
            DistancePromises::orderOfPairs);
        Promise.test(16,
            "The next point of a cursor is that of the least pair which is greater than the last pair (the "
            + "least pair of all, if there is none).", DistancePromises::nextAfterChanges);
    }

    private static void cursor() {
        Promise.test(17, "Returns a value of a cursor.", DistancePromises::cursorAnswers);
        Promise.test(17, "- `cursor`: 0 to 3", DistancePromises::cursorCursors);
        Promise.test(17,
            "- `what`: 0 and 1 x and y of the center, 2 distance and 3 id of the last pair (NONE without one), "
            + "4 number of points whose pairs are greater than the last pair (all points without one), "
            + "5 number of nodes of level 0 whose distance to the center is at most the distance of the last pair "
            + "(0 without one)",
            DistancePromises::cursorWhats);
        Promise.test(17, "Returns that value.", DistancePromises::leastPair);
        Promise.test(17, "Throws `IndexOutOfBoundsException` if there is no such cursor",
            DistancePromises::cursorOutside);
        Promise.test(17, "Throws `IllegalArgumentException` if what is out of range",
            DistancePromises::cursorArguments);
        Promise.test(17, Promise.ALL_EXCEPTIONS, () -> Promise.indexAndWhat("cursor", 4, 5, SkipQuadtree::cursor));
        Promise.test(17, Promise.NONE_LAST, DistancePromises::cursorNoneLast);
        Promise.test(17,
            "A cursor has a center, a position ((0, 0) at first), and may have a last pair of a distance and an "
            + "id (none at first).", DistancePromises::cursorAtFirst);
        Promise.test(17, "4 number of points whose pairs are greater than the last pair (all points without one)",
            DistancePromises::pairsLeft);
        Promise.test(17,
            "5 number of nodes of level 0 whose distance to the center is at most the distance of the last pair",
            DistancePromises::nodesAtJustTheDistance);
        Promise.test(17,
            "The distance of a position and a square is the least distance of the position and a position of "
            + "the square (0 if it contains it).", DistancePromises::distancesToSquares);
    }

    private static void nearest() {
        Promise.test(18,
            "Returns the id of the point that has a rank among all points, ordered by their distances to a "
            + "position, and for equal distances by their ids.", DistancePromises::ranks);
        Promise.test(18, "- `x`: 0 to 63", DistancePromises::nearestXs);
        Promise.test(18, "- `y`: 0 to 63", DistancePromises::nearestYs);
        Promise.test(18, "- `rank`: 0 or more", DistancePromises::nearestRanks);
        Promise.test(18, "Returns the id; NONE if there are not so many points.", DistancePromises::nearestOfNone);
        Promise.test(18, "Throws `IllegalArgumentException` if x or y is out of range, or rank is negative",
            DistancePromises::nearestArguments);
        Promise.test(18, Promise.NONE_LAST, DistancePromises::nearestNoneLast);
        Promise.test(18,
            "The distance of two positions is the square of the difference of their x plus the square of that "
            + "of their y.", DistancePromises::distances);
    }

    private static void within() {
        Promise.test(19, "Counts the points in a rectangle, its borders included.", DistancePromises::borders);
        Promise.test(19, "- `x0`: 0 to 63", DistancePromises::withinX0s);
        Promise.test(19, "- `y0`: 0 to 63", DistancePromises::withinY0s);
        Promise.test(19, "- `x1`: 0 to 63", DistancePromises::withinX1s);
        Promise.test(19, "- `y1`: 0 to 63", DistancePromises::withinY1s);
        Promise.test(19, "Returns the number; 0 if x1 is less than x0, or y1 less than y0.",
            DistancePromises::turnedRound);
        Promise.test(19, "Throws `IllegalArgumentException` if an argument is out of range",
            DistancePromises::withinArguments);
    }

    private static void closest() {
        Promise.test(20,
            "Returns a part of the closest pair of points: the one with the least distance, of several the one "
            + "with the lowest id, and then with the lowest other id.", DistancePromises::closestPairs);
        Promise.test(20, "- `what`: 0 distance, 1 lower id, 2 higher id", DistancePromises::closestWhats);
        Promise.test(20, "Returns that part; NONE with fewer than two points.", DistancePromises::closestOfFew);
        Promise.test(20, "Throws `IllegalArgumentException` if what is out of range",
            DistancePromises::closestArguments);
        Promise.test(20, Promise.NONE_LAST, DistancePromises::closestNoneLast);
    }

    // ---- trees to begin with

    /** The distances to (10, 10) are: id 2 0, ids 1 and 7 25, ids 4 and 9 100, id 0 1700. */
    private static SkipQuadtree sample() {
        SkipQuadtree t = new SkipQuadtree();
        t.add(0, 50, 20);
        t.add(1, 13, 14);
        t.add(2, 10, 10);
        t.add(4, 10, 20);
        t.add(7, 6, 7);
        t.add(9, 0, 10);
        return t;
    }

    private static SkipQuadtree allTogether() {
        SkipQuadtree t = new SkipQuadtree();
        t.scatter(0, 24, 1, 5);
        return t;
    }

    private static void dueCursor(SkipQuadtree t, int cursor, int... wants) {
        for (int what = 0; what < wants.length; what++) {
            Check.due("cursor(" + cursor + ", " + what + ")", wants[what], t.cursor(cursor, what));
        }
    }

    // ---- promise 15

    private static void openStands() {
        SkipQuadtree t = sample();
        t.open(3, 63, 0);
        dueCursor(t, 3, 63, 0, -1, -1, 6, 0);
        t.next(3);
        dueCursor(t, 3, 63, 0, 569, 0, 5);
        t.open(3, 63, 0);
        dueCursor(t, 3, 63, 0, -1, -1, 6, 0);
        Check.due("next(3) of a cursor that is opened again", 0, t.next(3));
        t.open(3, 0, 63);
        dueCursor(t, 3, 0, 63, -1, -1, 6, 0);
        Check.due("next(3) from another center", 4, t.next(3));
    }

    private static void openUndoable() {
        Promise.undoable("open(1, 5, 6)", t -> t.open(1, 5, 6));
        Promise.undoable("open(0, 63, 63)", t -> t.open(0, 63, 63));
        Promise.undoable("open(2, 0, 0), which changes nothing", t -> t.open(2, 0, 0));
        SkipQuadtree t = sample();
        t.open(3, 10, 10);
        t.next(3);
        t.next(3);
        t.open(3, 50, 50);
        t.undo();
        dueCursor(t, 3, 10, 10, 25, 1, 4);
    }

    private static void openCursors() {
        Promise.range(Promise::busy, "open of the cursor", 0, 3, Promise.NO_INDEX, (t, cursor) -> t.open(cursor, 5, 6));
        for (int cursor : new int[] {0, 3}) {
            SkipQuadtree t = Promise.busy();
            t.open(cursor, 5, 6);
            dueCursor(t, cursor, 5, 6, -1, -1, 12, 0);
        }
    }

    private static void openXs() {
        Promise.range(Promise::busy, "open with x", 0, 63, Promise.BAD_ARGUMENT, (t, x) -> t.open(2, x, 6));
        SkipQuadtree t = Promise.busy();
        t.open(2, 63, 6);
        dueCursor(t, 2, 63, 6);
        t.open(2, 0, 6);
        dueCursor(t, 2, 0, 6);
    }

    private static void openYs() {
        Promise.range(Promise::busy, "open with y", 0, 63, Promise.BAD_ARGUMENT, (t, y) -> t.open(2, 6, y));
        SkipQuadtree t = Promise.busy();
        t.open(2, 6, 63);
        dueCursor(t, 2, 6, 63);
        t.open(2, 6, 0);
        dueCursor(t, 2, 6, 0);
    }

    private static void openAnswers() {
        SkipQuadtree t = new SkipQuadtree();
        Check.due("open(0, 5, 6) without points", 0, t.open(0, 5, 6));
        for (int id = 0; id < 24; id++) {
            t.add(id, 5, id);
            Check.due("open(0, 5, 6) with the ids to " + id, id + 1, t.open(0, 5, 6));
        }
        t.next(0);
        Check.due("open(0, 5, 6) behind next(0)", 24, t.open(0, 5, 6));
        t.remove(3);
        Check.due("open(3, 5, 6) without one", 23, t.open(3, 5, 6));
    }

    private static void openOutside() {
        Promise.refused("open(4, 64, 64)", Promise.NO_INDEX, t -> t.open(4, 64, 64));
        Promise.refused("open(-1, -1, -1)", Promise.NO_INDEX, t -> t.open(-1, -1, -1));
    }

    private static void openArguments() {
        Promise.refused("open(1, 64, 64)", Promise.BAD_ARGUMENT, t -> t.open(1, 64, 64));
        Promise.refused("open(1, 0, -1)", Promise.BAD_ARGUMENT, t -> t.open(1, 0, -1));
        Promise.outcome(SkipQuadtree::new, "open(0, -1, 0) without points", Promise.BAD_ARGUMENT,
            t -> t.open(0, -1, 0));
    }

    private static void openOrder() {
        for (int cursor : new int[] {-1, 0, 3, 4}) {
            for (int x : new int[] {-1, 0, 63, 64}) {
                for (int y : new int[] {-1, 0, 63, 64}) {
                    boolean bad = x < 0 || x > 63 || y < 0 || y > 63;
                    String due = bad ? Promise.BAD_ARGUMENT : Promise.FINE;
                    due = cursor < 0 || cursor > 3 ? Promise.NO_INDEX : due;
                    Promise.refused("open(" + cursor + ", " + x + ", " + y + ")", due, t -> t.open(cursor, x, y));
                }
            }
        }
    }

    private static void fourCursors() {
        SkipQuadtree t = sample();
        int[][] centers = {{10, 10}, {0, 0}, {63, 63}, {50, 20}};
        for (int cursor = 0; cursor < 4; cursor++) {
            t.open(cursor, centers[cursor][0], centers[cursor][1]);
        }
        int[] nearest = {2, 7, 0, 0};
        int[] distances = {0, 85, 2018, 0};
        for (int cursor = 3; cursor >= 0; cursor--) {
            Check.due("next(" + cursor + ")", nearest[cursor], t.next(cursor));
        }
        for (int cursor = 0; cursor < 4; cursor++) {
            dueCursor(t, cursor, centers[cursor][0], centers[cursor][1], distances[cursor], nearest[cursor], 5);
        }
    }

    // ---- promise 16

    private static void nextStands() {
        SkipQuadtree t = sample();
        t.open(1, 10, 10);
        int[][] pairs = {{0, 2}, {25, 1}, {25, 7}, {100, 4}, {100, 9}, {1700, 0}};
        for (int k = 0; k < pairs.length; k++) {
            Check.due("next(1), call " + k, pairs[k][1], t.next(1));
            dueCursor(t, 1, 10, 10, pairs[k][0], pairs[k][1], 5 - k);
            dueCursor(t, 0, 0, 0, -1, -1, 6, 0);
        }
    }

    private static void nextUndoable() {
        Promise.undoable("next(1)", t -> t.next(1));
        Promise.undoable("next(2) without a last pair", t -> t.next(2));
        SkipQuadtree t = new SkipQuadtree();
        t.add(3, 5, 6);
        t.next(0);
        t.next(0);
        t.next(0);
        Check.due("undo() of a next that gave NONE", 3, t::undo);
        Check.due("undo() of another", 2, t::undo);
        dueCursor(t, 0, 0, 0, 61, 3, 0);
        Check.due("undo() of the one that gave a point", 1, t::undo);
        dueCursor(t, 0, 0, 0, -1, -1, 1, 0);
        Check.due("next(0) again", 3, t.next(0));
    }

    private static void nextCursors() {
        Promise.range(Promise::busy, "next of the cursor", 0, 3, Promise.NO_INDEX, (t, cursor) -> t.next(cursor));
    }

    private static void nextOfNone() {
        SkipQuadtree t = new SkipQuadtree();
        Check.due("next(3) without points", -1, t.next(3));
        dueCursor(t, 3, 0, 0, -1, -1, 0, 0);
        t.add(5, 3, 4);
        Check.due("next(3) with one", 5, t.next(3));
        for (int again = 0; again < 3; again++) {
            Check.due("next(3) behind the last", -1, t.next(3));
            dueCursor(t, 3, 0, 0, 25, 5, 0, 1);
        }
        t.remove(5);
        Check.due("next(3) without points again", -1, t.next(3));
        dueCursor(t, 3, 0, 0, 25, 5, 0, 1);
    }

    private static void nextOutside() {
        Promise.refused("next(4)", Promise.NO_INDEX, t -> t.next(4));
        Promise.refused("next(-1)", Promise.NO_INDEX, t -> t.next(-1));
    }

    private static void nextNoneLast() {
        Promise.outcome(SkipQuadtree::new, "next(4) without points", Promise.NO_INDEX, t -> t.next(4));
        Promise.outcome(SkipQuadtree::new, "next(-1) without points", Promise.NO_INDEX, t -> t.next(-1));
    }

    private static void orderOfPairs() {
        SkipQuadtree t = allTogether();
        for (int id = 0; id < 24; id++) {
            Check.due("next(2) of equal distances", id, t.next(2));
            dueCursor(t, 2, 0, 0, 0, id, 23 - id, 1);
        }
        Check.due("next(2) behind all", -1, t.next(2));
        SkipQuadtree corners = new SkipQuadtree();
        corners.add(0, 63, 63);
        corners.add(8, 63, 0);
        corners.add(4, 0, 63);
        corners.add(23, 0, 0);
        int[][] pairs = {{0, 23}, {3969, 4}, {3969, 8}, {7938, 0}};
        for (int[] pair : pairs) {
            Check.due("next(0) of the corners", pair[1], corners.next(0));
            dueCursor(corners, 0, 0, 0, pair[0], pair[1]);
        }
    }

    /** A cursor compares with its last pair as it was, not with the point as it is now. */
    private static void nextAfterChanges() {
        SkipQuadtree t = sample();
        t.open(0, 10, 10);
        t.next(0);
        t.next(0);
        t.move(1, 10, 20);
        Check.due("next point at the same distance with a higher id", 7, t.next(0));
        Check.due("a point that moved away comes again", 1, t.next(0));
        t.remove(4);
        Check.due("a removed point does not come", 9, t.next(0));
        t.add(4, 10, 20);
        t.move(0, 10, 10);
        Check.due("a lower id at the same distance, and a point that moved near, do not come", -1, t.next(0));
        t.add(23, 10, 20);
        Check.due("a higher id at the same distance comes", 23, t.next(0));
        t.move(23, 10, 19);
        Check.due("the last point itself, nearer now, does not come", -1, t.next(0));
        t.move(23, 10, 21);
        Check.due("the last point itself, farther now, comes", 23, t.next(0));
        t.remove(23);
        dueCursor(t, 0, 10, 10, 121, 23, 0);
    }

    // ---- promise 17

    private static void cursorAnswers() {
        SkipQuadtree t = sample();
        t.open(2, 10, 11);
        dueCursor(t, 2, 10, 11, -1, -1, 6, 0);
        t.next(2);
        t.next(2);
        dueCursor(t, 2, 10, 11, 18, 1, 4);
        t.move(1, 60, 60);
        dueCursor(t, 2, 10, 11, 18, 1, 5);
        Promise.changesNothing("cursor(1, 5)", s -> s.cursor(1, 5));
        Promise.changesNothing("cursor(2, 2)", s -> s.cursor(2, 2));
    }

    private static void cursorCursors() {
        Promise.range(Promise::busy, "cursor", 0, 3, Promise.NO_INDEX, (t, cursor) -> t.cursor(cursor, 3));
        Promise.range(SkipQuadtree::new, "cursor", 0, 3, Promise.NO_INDEX, (t, cursor) -> t.cursor(cursor, 5));
    }

    private static void cursorWhats() {
        for (int cursor = 0; cursor < 4; cursor++) {
            int asked = cursor;
            Promise.range(Promise::busy, "cursor " + cursor + ", what", 0, 5, Promise.BAD_ARGUMENT,
                (t, what) -> t.cursor(asked, what));
        }
        SkipQuadtree t = sample();
        t.open(3, 63, 62);
        dueCursor(t, 3, 63, 62, -1, -1, 6, 0);
        t.next(3);
        dueCursor(t, 3, 63, 62, 1933, 0, 5, 1);
    }

    /** The least pair there can be, the distance 0 with the id 0, is not the same as none. */
    private static void leastPair() {
        SkipQuadtree t = new SkipQuadtree();
        t.add(0, 7, 8);
        t.add(1, 7, 8);
        t.open(0, 7, 8);
        dueCursor(t, 0, 7, 8, -1, -1, 2, 0);
        Check.due("next(0) at the center", 0, t.next(0));
        dueCursor(t, 0, 7, 8, 0, 0, 1, 1);
        Check.due("next(0) again", 1, t.next(0));
        dueCursor(t, 0, 7, 8, 0, 1, 0, 1);
        SkipQuadtree greatest = new SkipQuadtree();
        greatest.add(23, 63, 63);
        greatest.next(0);
        dueCursor(greatest, 0, 0, 0, 7938, 23, 0, 1);
    }

    private static void cursorOutside() {
        Promise.refused("cursor(4, 6)", Promise.NO_INDEX, t -> t.cursor(4, 6));
        Promise.refused("cursor(-1, -1)", Promise.NO_INDEX, t -> t.cursor(-1, -1));
    }

    private static void cursorArguments() {
        Promise.refused("cursor(3, 6)", Promise.BAD_ARGUMENT, t -> t.cursor(3, 6));
        Promise.refused("cursor(0, -1)", Promise.BAD_ARGUMENT, t -> t.cursor(0, -1));
    }

    private static void cursorNoneLast() {
        Promise.outcome(SkipQuadtree::new, "cursor(4, 2) of a new one", Promise.NO_INDEX, t -> t.cursor(4, 2));
        Promise.outcome(SkipQuadtree::new, "cursor(0, 6) of a new one", Promise.BAD_ARGUMENT, t -> t.cursor(0, 6));
    }

    private static void cursorAtFirst() {
        SkipQuadtree t = new SkipQuadtree();
        for (int cursor = 0; cursor < 4; cursor++) {
            dueCursor(t, cursor, 0, 0, -1, -1, 0, 0);
        }
        t.add(0, 63, 63);
        t.add(1, 1, 1);
        for (int cursor = 0; cursor < 4; cursor++) {
            dueCursor(t, cursor, 0, 0, -1, -1, 2, 0);
            Check.due("next(" + cursor + ") of one that was never opened", 1, t.next(cursor));
        }
    }

    private static void pairsLeft() {
        SkipQuadtree t = new SkipQuadtree();
        t.scatter(0, 24, 8, 31);
        for (int left = 24; left > 0; left--) {
            Check.due("pairs left", left, t.cursor(3, 4));
            t.next(3);
        }
        Check.due("pairs left at the end", 0, t.cursor(3, 4));
        t.move(5, 63, 63);
        Check.due("pairs left, with one point far away", 1, t.cursor(3, 4));
        t.move(5, 0, 0);
        Check.due("pairs left, with that point at the center", 0, t.cursor(3, 4));
        t.remove(5);
        t.open(3, 0, 0);
        Check.due("pairs without a last pair", 23, t.cursor(3, 4));
    }

    /** The node (16, 16) of 4 is 9 away from each center; the last pair is once 8 away, then 9 or more. */
    private static void nodesAtJustTheDistance() {
        int[][] centers = {{22, 16}, {13, 16}, {16, 22}, {16, 13}};
        int[][] points = {{24, 18}, {11, 14}, {18, 24}, {14, 11}};
        for (int k = 0; k < 4; k++) {
            SkipQuadtree t = new SkipQuadtree();
            t.add(0, 16, 16);
            t.add(2, 19, 19);
            t.add(4, points[k][0], points[k][1]);
            t.open(0, centers[k][0], centers[k][1]);
            Check.due("next(0) beside the node, center " + k, 4, t.next(0));
            Check.due("its distance, center " + k, 8, t.cursor(0, 2));
            Check.due("all nodes but that one, center " + k, t.level(0, 1) - 1, t.cursor(0, 5));
            t.remove(4);
            Check.due("next(0) of the node, center " + k, k % 2 == 0 ? 2 : 0, t.next(0));
            Check.due("that node too, center " + k, 2, t.cursor(0, 5));
        }
        SkipQuadtree t = new SkipQuadtree();
        t.add(0, 16, 16);
        t.add(2, 19, 19);
        t.open(0, 22, 19);
        t.next(0);
        dueCursor(t, 0, 22, 19, 9, 2, 1, 2);
        Check.due("the distances of 9 count too", 2, t.level(0, 1));
    }

    /** Each node's distance is looked for among all positions of the square. */
    private static void distancesToSquares() {
        for (int k = 0; k < 150; k++) {
            SkipQuadtree t = new SkipQuadtree();
            t.scatter(0, 24, k % 3 == 0 ? 20 : 64, k);
            int x = 41 * k % 64;
            int y = 23 * k % 64;
            t.open(k % 4, x, y);
            for (int calls = 0; calls <= k % 5; calls++) {
                t.next(k % 4);
            }
            int reach = t.cursor(k % 4, 2);
            int nodes = t.level(0, 1);
            int due = 0;
            for (int index = 0; index < nodes; index++) {
                int least = leastDistance(t.node(0, index, 0), t.node(0, index, 1), t.node(0, index, 2), x, y);
                due += least <= reach ? 1 : 0;
            }
            Check.due("nodes within " + reach + " of (" + x + ", " + y + ")", due, t.cursor(k % 4, 5));
        }
        SkipQuadtree t = allTogether();
        t.open(0, 63, 63);
        t.remove(0);
        t.add(0, 63, 63);
        t.next(0);
        dueCursor(t, 0, 63, 63, 0, 0, 23, 1);
    }

    private static int leastDistance(int a, int b, int size, int x, int y) {
        int least = Integer.MAX_VALUE;
        for (int p = a; p < a + size; p++) {
            for (int q = b; q < b + size; q++) {
                least = Math.min(least, (p - x) * (p - x) + (q - y) * (q - y));
            }
        }
        return least;
    }

    // ---- promise 18

    private static void dueNearest(SkipQuadtree t, int x, int y, int... wants) {
        for (int rank = 0; rank < wants.length; rank++) {
            Check.due("nearest(" + x + ", " + y + ", " + rank + ")", wants[rank], t.nearest(x, y, rank));
        }
    }

    private static void ranks() {
        dueNearest(sample(), 10, 10, 2, 1, 7, 4, 9, 0, -1, -1);
        SkipQuadtree t = allTogether();
        for (int rank = 0; rank < 24; rank++) {
            Check.due("nearest(5, 5, " + rank + ") of equal distances", rank, t.nearest(5, 5, rank));
        }
        t.move(0, 5, 5);
        t.move(23, 4, 5);
        dueNearest(t, 5, 5, 0, 23, 1, 2);
        Promise.changesNothing("nearest(1, 1, 3)", s -> s.nearest(1, 1, 3));
    }

    private static void nearestXs() {
        Promise.range(Promise::busy, "nearest with x", 0, 63, Promise.BAD_ARGUMENT, (t, x) -> t.nearest(x, 6, 0));
        dueNearest(sample(), 0, 10, 9);
        dueNearest(sample(), 63, 10, 0);
    }

    private static void nearestYs() {
        Promise.range(Promise::busy, "nearest with y", 0, 63, Promise.BAD_ARGUMENT, (t, y) -> t.nearest(6, y, 0));
        dueNearest(sample(), 10, 0, 7);
        dueNearest(sample(), 10, 63, 4);
    }

    private static void nearestRanks() {
        for (int rank : new int[] {0, 11, 12, 24, Integer.MAX_VALUE}) {
            Promise.refused("nearest(6, 6, " + rank + ")", Promise.FINE, t -> t.nearest(6, 6, rank));
        }
        for (int rank : new int[] {-1, -2, -24, Integer.MIN_VALUE}) {
            Promise.refused("nearest(6, 6, " + rank + ")", Promise.BAD_ARGUMENT, t -> t.nearest(6, 6, rank));
        }
    }

    private static void nearestOfNone() {
        dueNearest(new SkipQuadtree(), 0, 0, -1, -1);
        SkipQuadtree t = Promise.busy();
        Check.same("nearest(6, 6, 11) is a point", Integer.toString(t.point(t.nearest(6, 6, 11), 0)), "1");
        for (int rank : new int[] {12, 13, 24, 25, 1000, Integer.MAX_VALUE}) {
            Check.due("nearest(6, 6, " + rank + ") of twelve", -1, t.nearest(6, 6, rank));
        }
        Check.due("nearest(6, 6, 24) of all", -1, Promise.crowd().nearest(6, 6, 24));
        Check.due("nearest(0, 0, 23) of all", 23, allTogether().nearest(0, 0, 23));
    }

    private static void nearestArguments() {
        for (int x : new int[] {-1, 0, 63, 64}) {
            for (int y : new int[] {-1, 0, 63, 64}) {
                for (int rank : new int[] {-1, 0, 24}) {
                    boolean bad = x < 0 || x > 63 || y < 0 || y > 63 || rank < 0;
                    Promise.refused("nearest(" + x + ", " + y + ", " + rank + ")",
                        bad ? Promise.BAD_ARGUMENT : Promise.FINE,
                        t -> t.nearest(x, y, rank));
                }
            }
        }
    }

    private static void nearestNoneLast() {
        Promise.outcome(SkipQuadtree::new, "nearest(64, 0, 5)", Promise.BAD_ARGUMENT, t -> t.nearest(64, 0, 5));
        Promise.outcome(SkipQuadtree::new, "nearest(0, -1, 0)", Promise.BAD_ARGUMENT, t -> t.nearest(0, -1, 0));
        Promise.outcome(SkipQuadtree::new, "nearest(0, 0, -1)", Promise.BAD_ARGUMENT, t -> t.nearest(0, 0, -1));
    }

    private static void distances() {
        int[][] positions = {{0, 0}, {63, 63}, {63, 0}, {0, 63}, {20, 30}, {23, 34}};
        for (int[] from : positions) {
            for (int[] to : positions) {
                SkipQuadtree t = new SkipQuadtree();
                t.add(5, to[0], to[1]);
                t.add(6, from[0], from[1]);
                t.open(0, from[0], from[1]);
                int due = (from[0] - to[0]) * (from[0] - to[0]) + (from[1] - to[1]) * (from[1] - to[1]);
                Check.due("closest(0)", due, t.closest(0));
                t.remove(6);
                t.next(0);
                Check.due("cursor(0, 2)", due, t.cursor(0, 2));
            }
        }
        SkipQuadtree t = new SkipQuadtree();
        t.add(0, 6, 0);
        t.add(1, 4, 4);
        dueNearest(t, 0, 0, 1, 0);
    }

    // ---- promise 19

    private static void borders() {
        SkipQuadtree t = sample();
        Check.due("within all", 6, t.within(0, 0, 63, 63));
        Check.due("within with points on its borders", 3, t.within(6, 7, 13, 14));
        Check.due("within one less on the left", 2, t.within(7, 7, 13, 14));
        Check.due("within one less below", 2, t.within(6, 8, 13, 14));
        Check.due("within one less on the right", 2, t.within(6, 7, 12, 14));
        Check.due("within one less above", 2, t.within(6, 7, 13, 13));
        Check.due("within a single position", 1, t.within(10, 10, 10, 10));
        Check.due("within a position beside it", 0, t.within(11, 10, 11, 10));
        Check.due("within a row", 2, t.within(0, 10, 63, 10));
        Check.due("within a column", 2, t.within(10, 0, 10, 63));
        Check.due("within the corner, of all in it", 24, allTogether().within(0, 0, 0, 0));
        Check.due("within, without points", 0, new SkipQuadtree().within(0, 0, 63, 63));
        Promise.changesNothing("within(1, 2, 30, 40)", s -> s.within(1, 2, 30, 40));
    }

    private static SkipQuadtree corners() {
        SkipQuadtree t = new SkipQuadtree();
        t.add(0, 0, 0);
        t.add(1, 63, 0);
        t.add(2, 0, 63);
        t.add(3, 63, 63);
        return t;
    }

    private static void withinX0s() {
        Promise.range(Promise::busy, "within with x0", 0, 63, Promise.BAD_ARGUMENT, (t, x0) -> t.within(x0, 0, 63, 63));
        Check.due("within(0, 0, 63, 63)", 4, corners().within(0, 0, 63, 63));
        Check.due("within(1, 0, 63, 63)", 2, corners().within(1, 0, 63, 63));
        Check.due("within(63, 0, 63, 63)", 2, corners().within(63, 0, 63, 63));
    }

    private static void withinY0s() {
        Promise.range(Promise::busy, "within with y0", 0, 63, Promise.BAD_ARGUMENT, (t, y0) -> t.within(0, y0, 63, 63));
        Check.due("within(0, 1, 63, 63)", 2, corners().within(0, 1, 63, 63));
        Check.due("within(0, 63, 63, 63)", 2, corners().within(0, 63, 63, 63));
    }

    private static void withinX1s() {
        Promise.range(Promise::busy, "within with x1", 0, 63, Promise.BAD_ARGUMENT, (t, x1) -> t.within(0, 0, x1, 63));
        Check.due("within(0, 0, 62, 63)", 2, corners().within(0, 0, 62, 63));
        Check.due("within(0, 0, 0, 63)", 2, corners().within(0, 0, 0, 63));
    }

    private static void withinY1s() {
        Promise.range(Promise::busy, "within with y1", 0, 63, Promise.BAD_ARGUMENT, (t, y1) -> t.within(0, 0, 63, y1));
        Check.due("within(0, 0, 63, 62)", 2, corners().within(0, 0, 63, 62));
        Check.due("within(0, 0, 63, 0)", 2, corners().within(0, 0, 63, 0));
    }

    private static void turnedRound() {
        SkipQuadtree t = sample();
        Check.due("within(13, 7, 6, 14)", 0, t.within(13, 7, 6, 14));
        Check.due("within(6, 14, 13, 7)", 0, t.within(6, 14, 13, 7));
        Check.due("within(13, 14, 6, 7)", 0, t.within(13, 14, 6, 7));
        Check.due("within(63, 63, 0, 0)", 0, t.within(63, 63, 0, 0));
        Check.due("within(11, 10, 10, 10)", 0, t.within(11, 10, 10, 10));
        Check.due("within(10, 11, 10, 10)", 0, t.within(10, 11, 10, 10));
        Check.due("within(9, 9, 11, 11)", 1, t.within(9, 9, 11, 11));
    }

    private static void withinArguments() {
        int[] ends = {-1, 0, 63, 64};
        for (int k = 0; k < 256; k++) {
            int x0 = ends[k / 64];
            int y0 = ends[k / 16 % 4];
            int x1 = ends[k / 4 % 4];
            int y1 = ends[k % 4];
            boolean bad = x0 < 0 || x0 > 63 || y0 < 0 || y0 > 63 || x1 < 0 || x1 > 63 || y1 < 0 || y1 > 63;
            Promise.refused("within(" + x0 + ", " + y0 + ", " + x1 + ", " + y1 + ")",
                bad ? Promise.BAD_ARGUMENT : Promise.FINE, t -> t.within(x0, y0, x1, y1));
        }
    }

    // ---- promise 20

    private static void dueClosest(SkipQuadtree t, int... wants) {
        for (int what = 0; what < 3; what++) {
            Check.due("closest(" + what + ")", wants[what], t.closest(what));
        }
    }

    private static void closestPairs() {
        SkipQuadtree t = new SkipQuadtree();
        t.add(20, 5, 5);
        t.add(9, 63, 63);
        dueClosest(t, 6728, 9, 20);
        t.add(22, 5, 8);
        dueClosest(t, 9, 20, 22);
        t.add(21, 8, 5);
        dueClosest(t, 9, 20, 21);
        t.add(2, 8, 8);
        dueClosest(t, 9, 2, 21);
        t.add(1, 63, 60);
        dueClosest(t, 9, 1, 9);
        t.add(0, 63, 62);
        dueClosest(t, 1, 0, 9);
        t.add(23, 8, 8);
        dueClosest(t, 0, 2, 23);
        dueClosest(allTogether(), 0, 0, 1);
        Promise.changesNothing("closest(0)", s -> s.closest(0));
    }

    private static void closestWhats() {
        Promise.range(Promise::busy, "closest, what", 0, 2, Promise.BAD_ARGUMENT, (t, what) -> t.closest(what));
        Promise.range(SkipQuadtree::new, "closest without points, what", 0, 2, Promise.BAD_ARGUMENT,
            (t, what) -> t.closest(what));
        SkipQuadtree t = new SkipQuadtree();
        t.add(22, 0, 0);
        t.add(23, 63, 63);
        dueClosest(t, 7938, 22, 23);
    }

    private static void closestOfFew() {
        SkipQuadtree t = new SkipQuadtree();
        dueClosest(t, -1, -1, -1);
        t.add(23, 5, 5);
        dueClosest(t, -1, -1, -1);
        t.add(0, 5, 5);
        dueClosest(t, 0, 0, 23);
        t.remove(23);
        dueClosest(t, -1, -1, -1);
        t.remove(0);
        dueClosest(t, -1, -1, -1);
    }

    private static void closestArguments() {
        Promise.refused("closest(3)", Promise.BAD_ARGUMENT, t -> t.closest(3));
        Promise.refused("closest(-1)", Promise.BAD_ARGUMENT, t -> t.closest(-1));
    }

    private static void closestNoneLast() {
        Promise.outcome(SkipQuadtree::new, "closest(3) without points", Promise.BAD_ARGUMENT, t -> t.closest(3));
        Promise.outcome(SkipQuadtree::new, "closest(-1) without points", Promise.BAD_ARGUMENT, t -> t.closest(-1));
    }
}

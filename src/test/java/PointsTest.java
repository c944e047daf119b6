/** Promises 1 to 8: the new object, its points and their motion. */
public final class PointsTest {
    public static void main(String[] args) {
        newObject();
        add();
        move();
        remove();
        setVelocity();
        tick();
        tickTouches();
        reflection();
        scatter();
        scatterRefuses();
        point();
        Check.close("PointsTest");
    }

    /** Promise 1. */
    private static void newObject() {
        SkipQuadtree t = new SkipQuadtree();
        for (int id = 0; id < 24; id++) {
            int asked = id;
            Check.due("new: point(" + id + ", 0)", 0, () -> t.point(asked, 0));
        }
        for (int level = 0; level < 5; level++) {
            int asked = level;
            Check.due("new: level(" + level + ", 0)", 0, () -> t.level(asked, 0));
            Check.due("new: level(" + level + ", 1)", 1, () -> t.level(asked, 1));
        }
        Check.due("new: cursor(3, 0)", 0, () -> t.cursor(3, 0));
        Check.due("new: cursor(3, 1)", 0, () -> t.cursor(3, 1));
        Check.due("new: cursor(3, 3)", -1, () -> t.cursor(3, 3));
        Check.due("new: time()", 0, t::time);
        Check.badState(t, "new: undo()", t::undo);
        Check.due("new: clearScript()", 0, t::clearScript);
        Check.due("new: digest()", new Model().digest(), t::digest);
        Check.due("NONE", -1, () -> SkipQuadtree.NONE);
    }

    /** Promise 2. */
    private static void add() {
        SkipQuadtree t = new SkipQuadtree();
        Check.due("add of the first point", 0, () -> t.add(0, 3, 5));
        Check.due("add beside it", 1, () -> t.add(1, 3, 4));
        Check.due("add on the same position", 0, () -> t.add(3, 3, 4));
        Check.due("add that branches in three levels", 3, () -> t.add(7, 0, 0));
        Check.due("add at the far corner", 0, () -> t.add(23, 63, 63));
        Check.due("point(7, 0)", 1, () -> t.point(7, 0));
        Check.due("point(23, 1)", 63, () -> t.point(23, 1));
        Check.due("point(23, 2)", 63, () -> t.point(23, 2));
        Check.due("velocity of an added point", 0, () -> 100 * t.point(7, 3) + t.point(7, 4));
        Check.noIndex(t, "add(-1, 0, 0)", () -> t.add(-1, 0, 0));
        Check.noIndex(t, "add(24, 0, 0)", () -> t.add(24, 0, 0));
        Check.noIndex(t, "add(24, 64, 0)", () -> t.add(24, 64, 0));
        Check.noIndex(t, "add(lowest int, 0, 0)", () -> t.add(Integer.MIN_VALUE, 0, 0));
        Check.badArgument(t, "add(2, -1, 0)", () -> t.add(2, -1, 0));
        Check.badArgument(t, "add(2, 64, 0)", () -> t.add(2, 64, 0));
        Check.badArgument(t, "add(2, 0, -1)", () -> t.add(2, 0, -1));
        Check.badArgument(t, "add(2, 0, 64)", () -> t.add(2, 0, 64));
        Check.badArgument(t, "add(0, 64, 0) of a point that exists", () -> t.add(0, 64, 0));
        Check.badState(t, "add(0, 1, 1) of a point that exists", () -> t.add(0, 1, 1));
        Check.due("undo() of an add", 3, t::undo);
        Check.due("point(23, 0) after it", 0, () -> t.point(23, 0));
    }

    /** Promise 3. */
    private static void move() {
        SkipQuadtree t = new SkipQuadtree();
        t.add(1, 10, 10);
        t.add(3, 40, 40);
        t.setVelocity(3, -4, 7);
        Check.due("move to the same position", 0, () -> t.move(3, 40, 40));
        Check.due("move beside another point, in two levels", 2, () -> t.move(3, 11, 11));
        Check.due("point(3, 1)", 11, () -> t.point(3, 1));
        Check.due("point(3, 3)", -4, () -> t.point(3, 3));
        Check.due("point(3, 4)", 7, () -> t.point(3, 4));
        Check.due("move from one square to a greater one", 4, () -> t.move(3, 8, 8));
        Check.due("move onto another point", 2, () -> t.move(3, 10, 10));
        Check.noIndex(t, "move(-1, 0, 64)", () -> t.move(-1, 0, 64));
        Check.noIndex(t, "move(24, 0, 0)", () -> t.move(24, 0, 0));
        Check.badArgument(t, "move(3, -1, 0)", () -> t.move(3, -1, 0));
        Check.badArgument(t, "move(3, 64, 0)", () -> t.move(3, 64, 0));
        Check.badArgument(t, "move(3, 0, -1)", () -> t.move(3, 0, -1));
        Check.badArgument(t, "move(0, 0, 64) of no point", () -> t.move(0, 0, 64));
        Check.badState(t, "move(0, 0, 0) of no point", () -> t.move(0, 0, 0));
        Check.due("undo() of a move", 3, t::undo);
        Check.due("point(3, 2) after it", 8, () -> t.point(3, 2));
    }

    /** Promise 4. */
    private static void remove() {
        SkipQuadtree t = new SkipQuadtree();
        t.add(1, 0, 0);
        t.add(3, 1, 1);
        t.add(5, 1, 1);
        t.setVelocity(3, 5, 5);
        Check.due("remove of one of two points on a position", 0, () -> t.remove(5));
        Check.due("remove that ends a branch in two levels", 2, () -> t.remove(3));
        Check.due("point(3, 0)", 0, () -> t.point(3, 0));
        Check.due("values of a removed point", 0, () -> t.point(3, 1) + t.point(3, 2) + t.point(3, 3) + t.point(3, 4));
        Check.due("height of a removed point", 2, () -> t.point(3, 5));
        Check.due("add again", 2, () -> t.add(3, 1, 1));
        Check.due("velocity after adding again", 0, () -> t.point(3, 3));
        Check.noIndex(t, "remove(-1)", () -> t.remove(-1));
        Check.noIndex(t, "remove(24)", () -> t.remove(24));
        Check.badState(t, "remove(0)", () -> t.remove(0));
        Check.due("remove(3)", 2, () -> t.remove(3));
        Check.due("undo() of a remove", 3, t::undo);
        Check.due("point(3, 0) after it", 1, () -> t.point(3, 0));
    }

    /** Promise 5. */
    private static void setVelocity() {
        SkipQuadtree t = new SkipQuadtree();
        t.add(9, 30, 30);
        Check.due("setVelocity(9, -9, 9)", 0, () -> t.setVelocity(9, -9, 9));
        Check.due("setVelocity(9, 3, -4)", 99, () -> t.setVelocity(9, 3, -4));
        Check.due("setVelocity(9, 9, -9)", 34, () -> t.setVelocity(9, 9, -9));
        Check.due("point(9, 3)", 9, () -> t.point(9, 3));
        Check.due("point(9, 4)", -9, () -> t.point(9, 4));
        Check.noIndex(t, "setVelocity(-1, 10, 0)", () -> t.setVelocity(-1, 10, 0));
        Check.noIndex(t, "setVelocity(24, 0, 0)", () -> t.setVelocity(24, 0, 0));
        Check.badArgument(t, "setVelocity(9, 10, 0)", () -> t.setVelocity(9, 10, 0));
        Check.badArgument(t, "setVelocity(9, -10, 0)", () -> t.setVelocity(9, -10, 0));
        Check.badArgument(t, "setVelocity(9, 0, 10)", () -> t.setVelocity(9, 0, 10));
        Check.badArgument(t, "setVelocity(0, 0, -10) of no point", () -> t.setVelocity(0, 0, -10));
        Check.badState(t, "setVelocity(0, 0, 0) of no point", () -> t.setVelocity(0, 0, 0));
        Check.due("undo() of a setVelocity", 3, t::undo);
        Check.due("point(9, 3) after it", 3, () -> t.point(9, 3));
    }

    /** Promise 6. */
    private static void tick() {
        SkipQuadtree t = new SkipQuadtree();
        t.add(0, 10, 20);
        t.setVelocity(0, 2, -3);
        t.open(2, 5, 5);
        t.next(2);
        Check.due("tick(4)", 0, () -> t.tick(4));
        Check.due("x after it", 18, () -> t.point(0, 1));
        Check.due("y after it", 8, () -> t.point(0, 2));
        Check.due("time() after it", 4, t::time);
        Check.due("the last distance of a cursor after it", 250, () -> t.cursor(2, 2));
        Check.badArgument(t, "tick(0)", () -> t.tick(0));
        Check.badArgument(t, "tick(-1)", () -> t.tick(-1));
        Check.badArgument(t, "tick(51)", () -> t.tick(51));
        Check.due("tick(50)", 0, () -> t.tick(50));
        Check.due("time() after both", 54, t::time);
        Check.due("undo() of a tick", 3, t::undo);
        Check.due("time() after undo", 4, t::time);
        Check.due("x after undo", 18, () -> t.point(0, 1));
        Check.due("tick(1)", 0, () -> t.tick(1));
        Check.due("time() at the end", 5, t::time);
    }

    /** Each tick is counted on its own, also when the last one stands as the first one did. */
    private static void tickTouches() {
        SkipQuadtree t = new SkipQuadtree();
        t.add(0, 0, 0);
        t.add(2, 1, 0);
        t.setVelocity(2, 1, 0);
        Check.due("tick(1) from size 2 to size 4", 2, () -> t.tick(1));
        Check.due("tick(1) within size 4", 0, () -> t.tick(1));
        Check.due("tick(2) to size 8", 2, () -> t.tick(2));
        t.move(2, 1, 0);
        t.setVelocity(2, -2, 0);
        Check.due("tick(1) reflected onto the same place", 0, () -> t.tick(1));
        t.setVelocity(2, -1, 0);
        Check.due("tick(2) over the other point and back", 2, () -> t.tick(2));
        Check.due("x then", 1, () -> t.point(2, 1));
    }

    private static void reflection() {
        SkipQuadtree t = new SkipQuadtree();
        t.add(0, 62, 1);
        t.setVelocity(0, 1, -1);
        t.tick(1);
        Check.due("x at the border", 63, () -> t.point(0, 1));
        Check.due("u at the border", 1, () -> t.point(0, 3));
        Check.due("y at the border", 0, () -> t.point(0, 2));
        Check.due("v at the border", -1, () -> t.point(0, 4));
        t.tick(1);
        Check.due("x reflected", 62, () -> t.point(0, 1));
        Check.due("u reflected", -1, () -> t.point(0, 3));
        Check.due("y reflected", 1, () -> t.point(0, 2));
        Check.due("v reflected", 1, () -> t.point(0, 4));
        t.move(0, 0, 63);
        t.setVelocity(0, -9, 9);
        t.tick(1);
        Check.due("x reflected far", 9, () -> t.point(0, 1));
        Check.due("u reflected far", 9, () -> t.point(0, 3));
        Check.due("y reflected far", 54, () -> t.point(0, 2));
        Check.due("v reflected far", -9, () -> t.point(0, 4));
    }

    /** Promise 7. With the seed 0 the first numbers s are 12345, then 1406932606. */
    private static void scatter() {
        SkipQuadtree t = new SkipQuadtree();
        t.add(5, 60, 60);
        t.setVelocity(5, 4, -4);
        Check.due("scatter(5, 2, 64, 0)", 2, () -> t.scatter(5, 2, 64, 0));
        Check.due("x of the first", 0, () -> t.point(5, 1));
        Check.due("y of the first", 1406932606L / 65536 % 64, () -> t.point(5, 2));
        Check.due("u of a point that existed", 4, () -> t.point(5, 3));
        Check.due("v of a point that was added", 0, () -> t.point(6, 4));
        Check.due("no point behind the last", 0, () -> t.point(7, 0));
        Check.due("no point before the first", 0, () -> t.point(4, 0));
        Check.due("scatter(0, 24, 1, 999999)", 24, () -> t.scatter(0, 24, 1, 999999));
        Check.due("all in an area of 1", 24, () -> t.within(0, 0, 0, 0));
        Check.due("undo() of a scatter", 3, t::undo);
        Check.due("points after it", 2, () -> t.level(0, 0));
        Check.due("scatter(23, 1, 7, 999999)", 3, () -> t.scatter(23, 1, 7, 999999));
        long first = (1103515245L * 999999 + 12345) % 2147483648L;
        Check.due("x of 23", first / 65536 % 7, () -> t.point(23, 1));
        long second = (1103515245L * first + 12345) % 2147483648L;
        Check.due("y of 23", second / 65536 % 7, () -> t.point(23, 2));
    }

    private static void scatterRefuses() {
        SkipQuadtree t = new SkipQuadtree();
        t.add(3, 1, 1);
        Check.noIndex(t, "scatter(-1, 1, 1, 0)", () -> t.scatter(-1, 1, 1, 0));
        Check.noIndex(t, "scatter(24, 0, 0, -1)", () -> t.scatter(24, 0, 0, -1));
        Check.badArgument(t, "scatter(0, 0, 1, 0)", () -> t.scatter(0, 0, 1, 0));
        Check.badArgument(t, "scatter(0, 25, 1, 0)", () -> t.scatter(0, 25, 1, 0));
        Check.badArgument(t, "scatter(23, 2, 1, 0)", () -> t.scatter(23, 2, 1, 0));
        Check.badArgument(t, "scatter(0, highest int, 1, 0)", () -> t.scatter(0, Integer.MAX_VALUE, 1, 0));
        Check.badArgument(t, "scatter(0, 1, 0, 0)", () -> t.scatter(0, 1, 0, 0));
        Check.badArgument(t, "scatter(0, 1, 65, 0)", () -> t.scatter(0, 1, 65, 0));
        Check.badArgument(t, "scatter(0, 1, 1, -1)", () -> t.scatter(0, 1, 1, -1));
        Check.badArgument(t, "scatter(0, 1, 1, 1000000)", () -> t.scatter(0, 1, 1, 1000000));
    }

    /** Promise 8. */
    private static void point() {
        SkipQuadtree t = new SkipQuadtree();
        int[] heights = {0, 1, 0, 2, 0, 1, 0, 3, 0, 1, 0, 2, 0, 1, 0, 4, 0, 1, 0, 2, 0, 1, 0, 3};
        for (int id = 0; id < 24; id++) {
            int asked = id;
            Check.due("point(" + id + ", 5)", heights[id], () -> t.point(asked, 5));
        }
        t.add(15, 12, 34);
        t.setVelocity(15, -5, 6);
        int[] values = {1, 12, 34, -5, 6, 4};
        for (int what = 0; what < 6; what++) {
            int asked = what;
            Check.due("point(15, " + what + ")", values[what], () -> t.point(15, asked));
            Check.due("point(14, " + what + ")", 0, () -> t.point(14, asked));
        }
        Check.noIndex(t, "point(-1, 6)", () -> t.point(-1, 6));
        Check.noIndex(t, "point(24, 0)", () -> t.point(24, 0));
        Check.badArgument(t, "point(0, -1)", () -> t.point(0, -1));
        Check.badArgument(t, "point(15, 6)", () -> t.point(15, 6));
    }
}

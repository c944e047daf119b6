import java.math.BigInteger;

/** Promises 1 to 8: the new object, its points and their motion. */
final class PointPromises {
    private PointPromises() {
    }

    static void tests() {
        newObject();
        add();
        move();
        remove();
        setVelocity();
        tick();
        motion();
        scatter();
        point();
    }

    private static void newObject() {
        Promise.test(1, "Creates a tree as described", PointPromises::objectsAreApart);
        Promise.test(1, "without points", PointPromises::newHasNoPoints);
        Promise.test(1, "No point exists at first.", PointPromises::newTakesAnyPoint);
        Promise.test(1, "with an empty script", PointPromises::newHasNoScript);
        Promise.test(1, "an empty undo stack", PointPromises::newHasNoSaves);
        Promise.test(1, "- `NONE = -1`: Returned where there is no such value.", PointPromises::none);
    }

    private static void add() {
        Promise.test(2, "Adds a point with the velocity (0, 0).", PointPromises::addStands);
        Promise.test(2, "Undoable.", PointPromises::addUndoable);
        Promise.test(2, "- `id`: 0 to 23", PointPromises::addIds);
        Promise.test(2, "- `x`: 0 to 63", PointPromises::addXs);
        Promise.test(2, "- `y`: 0 to 63", PointPromises::addYs);
        Promise.test(2, "Returns the number of touched squares.", PointPromises::addTouches);
        Promise.test(2, "Throws `IndexOutOfBoundsException` if id is out of range", PointPromises::addBeyondAll);
        Promise.test(2, "Throws `IllegalArgumentException` if x or y is out of range", PointPromises::addArguments);
        Promise.test(2, "Throws `IllegalStateException` if the point exists already", PointPromises::addTwice);
        Promise.test(2, Promise.ALL_EXCEPTIONS, PointPromises::addOrder);
        Promise.test(2, "There are at most 24 points, with the ids 0 to 23", PointPromises::addAll);
        Promise.test(2, "a position, x and y from 0 to 63, and a velocity, u and v from -9 to 9",
            PointPromises::corners);
        Promise.test(2, "Several points may have the same position.", PointPromises::addAllTogether);
    }

    private static void move() {
        Promise.test(3, "Moves a point to another position, or to the same; its velocity stays.",
            PointPromises::moveStands);
        Promise.test(3, "Undoable.", PointPromises::moveUndoable);
        Promise.test(3, "- `id`: 0 to 23", PointPromises::moveIds);
        Promise.test(3, "- `x`: 0 to 63", PointPromises::moveXs);
        Promise.test(3, "- `y`: 0 to 63", PointPromises::moveYs);
        Promise.test(3, "Returns the number of touched squares.", PointPromises::moveTouches);
        Promise.test(3, "Returns the number of touched squares.", PointPromises::moveAmongMostNodes);
        Promise.test(3, "Throws `IndexOutOfBoundsException` if id is out of range", PointPromises::moveBeyondAll);
        Promise.test(3, "Throws `IllegalArgumentException` if x or y is out of range", PointPromises::moveArguments);
        Promise.test(3, "Throws `IllegalStateException` if there is no such point", PointPromises::moveNothing);
        Promise.test(3, Promise.ALL_EXCEPTIONS, PointPromises::moveOrder);
        Promise.test(3, "A change touches a square in a level if the square is a node of this level before the change, "
            + "and is none after it, or the other way round.", PointPromises::touchBothWays);
        Promise.test(3, "The touched squares of a change are counted for all levels together.",
            PointPromises::touchAllLevels);
    }

    private static void remove() {
        Promise.test(4, "Removes a point.", PointPromises::removeStands);
        Promise.test(4, "Undoable.", PointPromises::removeUndoable);
        Promise.test(4, "- `id`: 0 to 23", PointPromises::removeIds);
        Promise.test(4, "Returns the number of touched squares.", PointPromises::removeTouches);
        Promise.test(4, "Throws `IndexOutOfBoundsException` if id is out of range", PointPromises::removeOutside);
        Promise.test(4, "Throws `IllegalStateException` if there is no such point", PointPromises::removeNothing);
    }

    private static void setVelocity() {
        Promise.test(5, "Sets the velocity of a point.", PointPromises::velocityStands);
        Promise.test(5, "Undoable.", PointPromises::velocityUndoable);
        Promise.test(5, "- `id`: 0 to 23", PointPromises::velocityIds);
        Promise.test(5, "- `u`: -9 to 9", PointPromises::velocityUs);
        Promise.test(5, "- `v`: -9 to 9", PointPromises::velocityVs);
        Promise.test(5, "Returns 10 * (absolute value of the previous u) + (absolute value of the previous v).",
            PointPromises::velocityAnswers);
        Promise.test(5, "Throws `IndexOutOfBoundsException` if id is out of range", PointPromises::velocityBeyondAll);
        Promise.test(5, "Throws `IllegalArgumentException` if u or v is out of range",
            PointPromises::velocityArguments);
        Promise.test(5, "Throws `IllegalStateException` if there is no such point", PointPromises::velocityOfNothing);
        Promise.test(5, Promise.ALL_EXCEPTIONS, PointPromises::velocityOrder);
    }

    private static void tick() {
        Promise.test(6, "Lets ticks pass.", PointPromises::tickStands);
        Promise.test(6, "Undoable.", PointPromises::tickUndoable);
        Promise.test(6, "- `ticks`: 1 to 50", PointPromises::tickRange);
        Promise.test(6, "Returns the number of touched squares, of all ticks together.", PointPromises::tickTouches);
        Promise.test(6, "Throws `IllegalArgumentException` if ticks is out of range", PointPromises::tickRefuses);
    }

    private static void motion() {
        Promise.test(6, "In a tick each point moves: x becomes x + u", PointPromises::eachPointMoves);
        Promise.test(6, "if this is less than 0, it becomes its negative", PointPromises::reflectedAtZero);
        Promise.test(6, "if it is greater than 63, it becomes 126 - x", PointPromises::reflectedAtEnd);
        Promise.test(6, "in both cases u becomes -u", PointPromises::reflectedForAndBack);
        Promise.test(6, "The same for y and v.", PointPromises::allReflections);
        Promise.test(6, "The cursors stay as they are.", PointPromises::cursorsStay);
    }

    private static void scatter() {
        Promise.test(7,
            "Adds points at random: a number s is at first the seed; for the ids from first on, as many as told, "
            + "s becomes (1103515245 * s + 12345) modulo 2147483648 for x, and then in the same way for y; each is "
            + "(s / 65536, rounded down) modulo (size of the area).", PointPromises::scatterPlaces);
        Promise.test(7, "Points that exist are moved there instead, and keep their velocities.",
            PointPromises::scatterMoves);
        Promise.test(7, "Undoable.", PointPromises::scatterUndoable);
        Promise.test(7, "- `first`: 0 to 23", PointPromises::scatterFirsts);
        Promise.test(7, "- `many`: 1 to 24 - first", PointPromises::scatterManys);
        Promise.test(7, "- `area`: 1 to 64", PointPromises::scatterAreas);
        Promise.test(7, "- `seed`: 0 to 999999", PointPromises::scatterSeeds);
        Promise.test(7, "Returns the number of points that exist then.", PointPromises::scatterAnswers);
        Promise.test(7, "Throws `IndexOutOfBoundsException` if first is out of range", PointPromises::scatterOutside);
        Promise.test(7, "Throws `IllegalArgumentException` if another argument is out of range",
            PointPromises::scatterArguments);
        Promise.test(7, Promise.ALL_EXCEPTIONS, PointPromises::scatterOrder);
    }

    private static void point() {
        Promise.test(8, "Returns a value of a point.", PointPromises::pointAnswers);
        Promise.test(8, "- `id`: 0 to 23", PointPromises::pointIds);
        Promise.test(8, "- `what`: 0 1 if it exists or 0 if not, 1 x, 2 y, 3 u, 4 v, "
            + "5 height (of the id, whether the point exists or not)", PointPromises::pointWhats);
        Promise.test(8, "Returns that value; 0 for 1 to 4 if the point does not exist.", PointPromises::pointOfNothing);
        Promise.test(8, "Throws `IndexOutOfBoundsException` if id is out of range", PointPromises::pointOutside);
        Promise.test(8, "Throws `IllegalArgumentException` if what is out of range", PointPromises::pointArguments);
        Promise.test(8, Promise.ALL_EXCEPTIONS, () -> Promise.indexAndWhat("point", 24, 5, SkipQuadtree::point));
        Promise.test(8, "The height of the point with the id i is the number of times that i + 1 can be divided by 2 "
            + "without remainder.", PointPromises::heights);
    }

    private static void duePoint(SkipQuadtree t, int id, int... wants) {
        for (int what = 0; what < wants.length; what++) {
            Check.due("point(" + id + ", " + what + ")", wants[what], t.point(id, what));
        }
    }

    // ---- promise 1

    private static void objectsAreApart() {
        SkipQuadtree t = new SkipQuadtree();
        SkipQuadtree other = Promise.crowd();
        Promise.sameState("an object beside another one", t, new SkipQuadtree());
        Promise.sameState("the other one", other, Promise.crowd());
    }

    private static void newHasNoPoints() {
        SkipQuadtree t = new SkipQuadtree();
        for (int id = 0; id < 24; id++) {
            duePoint(t, id, 0, 0, 0, 0, 0);
        }
        for (int level = 0; level < 5; level++) {
            Check.due("level(" + level + ", 0)", 0, t.level(level, 0));
        }
        Check.due("within(0, 0, 63, 63)", 0, t.within(0, 0, 63, 63));
    }

    private static void newTakesAnyPoint() {
        for (int id = 0; id < 24; id++) {
            int asked = id;
            Check.due("add(" + id + ", 1, 1)", 0, () -> new SkipQuadtree().add(asked, 1, 1));
            Check.same("remove(" + id + ")", Check.told(() -> new SkipQuadtree().remove(asked)), Promise.BAD_STATE);
        }
    }

    private static void newHasNoScript() {
        Check.due("clearScript()", 0, () -> new SkipQuadtree().clearScript());
        Check.due("run()", 0, () -> new SkipQuadtree().run());
        Check.due("type(32)", 1, () -> new SkipQuadtree().type(32));
    }

    private static void newHasNoSaves() {
        Promise.outcome(SkipQuadtree::new, "undo()", Promise.BAD_STATE, SkipQuadtree::undo);
        SkipQuadtree t = new SkipQuadtree();
        t.add(0, 0, 0);
        Check.due("undo() after one call", 0, t::undo);
    }

    private static void none() {
        Check.due("NONE", -1, SkipQuadtree.NONE);
        SkipQuadtree t = new SkipQuadtree();
        Check.due("next(0)", SkipQuadtree.NONE, t.next(0));
        Check.due("nearest(0, 0, 0)", SkipQuadtree.NONE, t.nearest(0, 0, 0));
        Check.due("closest(0)", SkipQuadtree.NONE, t.closest(0));
        Check.due("child(0, 0, 0)", SkipQuadtree.NONE, t.child(0, 0, 0));
        Check.due("cursor(0, 2)", SkipQuadtree.NONE, t.cursor(0, 2));
    }

    // ---- promise 2

    private static void addStands() {
        SkipQuadtree t = new SkipQuadtree();
        t.add(3, 12, 34);
        duePoint(t, 3, 1, 12, 34, 0, 0);
        Check.due("other points", 1, t.level(0, 0));
        t.setVelocity(3, -5, 6);
        t.remove(3);
        t.add(3, 12, 34);
        duePoint(t, 3, 1, 12, 34, 0, 0);
        t.setVelocity(3, -5, 6);
        Check.run(t, "drop 3;add 3 12 35;");
        duePoint(t, 3, 1, 12, 35, 0, 0);
        t.tick(1);
        duePoint(t, 3, 1, 12, 35, 0, 0);
    }

    private static void addUndoable() {
        Promise.undoable("add(20, 1, 2)", t -> t.add(20, 1, 2));
        Promise.undoable("add(0, 63, 63)", t -> t.add(0, 63, 63));
        SkipQuadtree t = new SkipQuadtree();
        t.add(23, 9, 9);
        Check.due("undo()", 0, t::undo);
        Promise.sameState("add and undo()", t, new SkipQuadtree());
    }

    private static void addIds() {
        Promise.range(Promise::busy, "add of the id", 0, 23, Promise.NO_INDEX, (t, id) -> t.add(id, 5, 6));
        for (int id : new int[] {0, 23}) {
            SkipQuadtree t = Promise.busy();
            t.add(id, 5, 6);
            duePoint(t, id, 1, 5, 6, 0, 0);
            Check.due("points", 13, t.level(0, 0));
        }
    }

    private static void addXs() {
        Promise.range(Promise::busy, "add with x", 0, 63, Promise.BAD_ARGUMENT, (t, x) -> t.add(20, x, 6));
    }

    private static void addYs() {
        Promise.range(Promise::busy, "add with y", 0, 63, Promise.BAD_ARGUMENT, (t, y) -> t.add(20, 6, y));
    }

    private static void addTouches() {
        SkipQuadtree t = new SkipQuadtree();
        Check.due("add of the first point", 0, t.add(0, 3, 5));
        Check.due("add beside it", 1, t.add(1, 3, 4));
        Check.due("add on the same position", 0, t.add(3, 3, 4));
        Check.due("add that branches in three levels", 3, t.add(7, 0, 0));
        Check.due("add into another quadrant of the whole", 0, t.add(23, 63, 63));
        Check.due("add into an empty quadrant of a node", 0, t.add(2, 7, 0));
        Check.due("add into a quadrant with a node", 1, t.add(4, 0, 7));
        SkipQuadtree greatest = new SkipQuadtree();
        greatest.add(7, 20, 20);
        Check.due("add that touches the most, a square in each of four levels", 4, greatest.add(15, 21, 20));
    }

    private static void addBeyondAll() {
        Promise.refused("add(24, 64, 64)", Promise.NO_INDEX, t -> t.add(24, 64, 64));
        Promise.refused("add(-1, -1, -1)", Promise.NO_INDEX, t -> t.add(-1, -1, -1));
        Promise.outcome(Promise::crowd, "add(24, 0, 0) of one more than all", Promise.NO_INDEX, t -> t.add(24, 0, 0));
        Promise.outcome(SkipQuadtree::new, "add(-1, 0, 0) to none", Promise.NO_INDEX, t -> t.add(-1, 0, 0));
    }

    private static void addArguments() {
        Promise.refused("add(20, 64, 64)", Promise.BAD_ARGUMENT, t -> t.add(20, 64, 64));
        Promise.refused("add(20, -1, 63)", Promise.BAD_ARGUMENT, t -> t.add(20, -1, 63));
        Promise.outcome(SkipQuadtree::new, "add(0, 0, 64) to none", Promise.BAD_ARGUMENT, t -> t.add(0, 0, 64));
    }

    private static void addTwice() {
        for (int id = 4; id < 16; id++) {
            int asked = id;
            Promise.refused("add(" + id + ", 1, 1)", Promise.BAD_STATE, t -> t.add(asked, 1, 1));
            Promise.refused("add of " + id + " where it is", Promise.BAD_STATE,
                t -> t.add(asked, t.point(asked, 1), t.point(asked, 2)));
        }
        SkipQuadtree t = Promise.busy();
        t.remove(9);
        t.add(9, 1, 1);
        duePoint(t, 9, 1, 1, 1, 0, 0);
        Check.same("add(9, 1, 1) again", Check.told(() -> t.add(9, 1, 1)), Promise.BAD_STATE);
    }

    private static void addOrder() {
        Promise.idAndTwo("add", 0, 63, 4, SkipQuadtree::add);
    }

    private static void addAll() {
        SkipQuadtree t = new SkipQuadtree();
        for (int id = 0; id < 24; id++) {
            t.add(id, 2 * id, 63 - id);
        }
        Check.due("points", 24, t.level(0, 0));
        for (int id = 0; id < 24; id++) {
            duePoint(t, id, 1, 2 * id, 63 - id, 0, 0);
            int asked = id;
            Promise.outcome(Promise::crowd, "add(" + id + ", 0, 0) beside all", Promise.BAD_STATE,
                s -> s.add(asked, 0, 0));
        }
    }

    private static void corners() {
        SkipQuadtree t = new SkipQuadtree();
        int[] ends = {0, 63};
        for (int k = 0; k < 4; k++) {
            t.add(k, ends[k % 2], ends[k / 2]);
            t.setVelocity(k, 18 * (k % 2) - 9, 18 * (k / 2) - 9);
        }
        duePoint(t, 0, 1, 0, 0, -9, -9);
        duePoint(t, 1, 1, 63, 0, 9, -9);
        duePoint(t, 2, 1, 0, 63, -9, 9);
        duePoint(t, 3, 1, 63, 63, 9, 9);
        Check.due("quadrants with points", 4, t.node(0, 0, 5));
    }

    private static void addAllTogether() {
        SkipQuadtree t = new SkipQuadtree();
        for (int id = 0; id < 24; id++) {
            Check.due("add(" + id + ", 63, 0)", 0, t.add(id, 63, 0));
        }
        Check.due("points at the position", 24, t.within(63, 0, 63, 0));
        Check.due("nodes", 1, t.level(0, 1));
        Check.due("different positions", 1, t.level(0, 4));
    }

    // ---- promise 3

    private static void moveStands() {
        SkipQuadtree t = new SkipQuadtree();
        t.add(1, 10, 10);
        t.add(3, 40, 40);
        t.setVelocity(3, -4, 7);
        Check.due("move to the same position", 0, t.move(3, 40, 40));
        duePoint(t, 3, 1, 40, 40, -4, 7);
        t.move(3, 10, 10);
        duePoint(t, 3, 1, 10, 10, -4, 7);
        duePoint(t, 1, 1, 10, 10, 0, 0);
        Check.due("points", 2, t.level(0, 0));
    }

    private static void moveUndoable() {
        Promise.undoable("move(7, 1, 2)", t -> t.move(7, 1, 2));
        Promise.undoable("move of 7 to the same position", t -> t.move(7, t.point(7, 1), t.point(7, 2)));
    }

    private static void moveIds() {
        Promise.range(Promise::crowd, "move of the id", 0, 23, Promise.NO_INDEX, (t, id) -> t.move(id, 5, 6));
        for (int id : new int[] {0, 23}) {
            SkipQuadtree t = Promise.crowd();
            t.move(id, 5, 6);
            duePoint(t, id, 1, 5, 6);
        }
    }

    private static void moveXs() {
        Promise.range(Promise::busy, "move with x", 0, 63, Promise.BAD_ARGUMENT, (t, x) -> t.move(7, x, 6));
        SkipQuadtree t = Promise.busy();
        t.move(7, 0, 6);
        duePoint(t, 7, 1, 0, 6);
        t.move(7, 63, 6);
        duePoint(t, 7, 1, 63, 6);
    }

    private static void moveYs() {
        Promise.range(Promise::busy, "move with y", 0, 63, Promise.BAD_ARGUMENT, (t, y) -> t.move(7, 6, y));
        SkipQuadtree t = Promise.busy();
        t.move(7, 6, 0);
        duePoint(t, 7, 1, 6, 0);
        t.move(7, 6, 63);
        duePoint(t, 7, 1, 6, 63);
    }

    private static void moveTouches() {
        SkipQuadtree t = new SkipQuadtree();
        t.add(1, 10, 10);
        Check.due("move of the only point", 0, t.move(1, 63, 0));
        t.move(1, 10, 10);
        t.add(3, 40, 40);
        Check.due("move within a quadrant of the whole", 0, t.move(3, 63, 63));
        Check.due("move beside another point, in two levels", 2, t.move(3, 11, 11));
        Check.due("move within the quadrant of a node", 0, t.move(3, 11, 11));
        Check.due("move from one square to a greater one", 4, t.move(3, 8, 8));
        Check.due("move onto another point", 2, t.move(3, 10, 10));
        Check.due("move away from its position", 0, t.move(3, 40, 10));
    }

    /** The most nodes that a level can have, 24, of which the last one ends or begins. */
    private static void moveAmongMostNodes() {
        SkipQuadtree t = new SkipQuadtree();
        for (int id = 0; id < 23; id++) {
            t.add(id, id == 20 ? 23 : id == 21 ? 20 : id, 0);
        }
        t.add(23, 24, 0);
        Check.due("nodes", 24, t.level(0, 1));
        Check.due("a before the last node", 22, t.node(0, 23, 0));
        Check.due("move of 20 to 21", 2, t.move(20, 21, 0));
        Check.due("a of the last node then", 20, t.node(0, 23, 0));
        Check.due("wouldTouch of the way back", 2, t.wouldTouch(20, 23, 0));
        Check.due("move of 20 back", 2, t.move(20, 23, 0));
        Check.due("nodes again", 24, t.level(0, 1));
    }

    private static void moveBeyondAll() {
        Promise.refused("move(24, 64, 64)", Promise.NO_INDEX, t -> t.move(24, 64, 64));
        Promise.refused("move(-1, -1, -1)", Promise.NO_INDEX, t -> t.move(-1, -1, -1));
        Promise.outcome(SkipQuadtree::new, "move(24, 0, 0) of none", Promise.NO_INDEX, t -> t.move(24, 0, 0));
    }

    private static void moveArguments() {
        Promise.refused("move(7, 64, 64)", Promise.BAD_ARGUMENT, t -> t.move(7, 64, 64));
        Promise.refused("move(7, 63, -1)", Promise.BAD_ARGUMENT, t -> t.move(7, 63, -1));
        Promise.refused("move(0, -1, 0) of no point", Promise.BAD_ARGUMENT, t -> t.move(0, -1, 0));
        Promise.refused("move(0, 0, 64) of no point", Promise.BAD_ARGUMENT, t -> t.move(0, 0, 64));
    }

    private static void moveNothing() {
        for (int id : new int[] {0, 1, 2, 3, 16, 17, 18, 19, 20, 21, 22, 23}) {
            Promise.refused("move(" + id + ", 0, 0)", Promise.BAD_STATE, t -> t.move(id, 0, 0));
            Promise.outcome(SkipQuadtree::new, "move(" + id + ", 0, 0) of none", Promise.BAD_STATE,
                t -> t.move(id, 0, 0));
        }
        SkipQuadtree t = Promise.busy();
        t.remove(7);
        Check.same("move(7, 0, 0) after remove(7)", Check.told(() -> t.move(7, 0, 0)), Promise.BAD_STATE);
    }

    private static void moveOrder() {
        Promise.idAndTwo("move", 0, 63, 16, SkipQuadtree::move);
    }

    private static void touchBothWays() {
        SkipQuadtree t = new SkipQuadtree();
        t.add(0, 0, 0);
        t.add(2, 60, 60);
        t.add(4, 1, 0);
        Check.due("a node here ends, one there begins", 2, t.move(4, 61, 60));
        Check.due("a node that stays, by two other points", 1, t.add(6, 1, 1));
        Check.due("it stays", 0, t.add(8, 0, 1));
        Check.due("it stays without one of four", 0, t.remove(0));
        Check.due("it ends with two points left on a position", 1, t.move(6, 0, 1));
        Check.due("the whole is no touched square", 0, t.move(8, 40, 1));
    }

    private static void touchAllLevels() {
        SkipQuadtree t = new SkipQuadtree();
        t.add(7, 0, 0);
        t.add(15, 1, 0);
        t.add(23, 60, 60);
        Check.due("a square ends in four levels, and one begins in four", 8, t.move(15, 61, 60));
        t.add(0, 61, 61);
        Check.due("a square ends in three levels, and stays in level 0", 3, t.remove(15));
        for (int height = 0; height < 4; height++) {
            SkipQuadtree pair = new SkipQuadtree();
            pair.add(15, 8, 9);
            Check.due("levels of height " + height, height + 1, pair.add((1 << height) - 1, 9, 8));
        }
    }

    // ---- promise 4

    private static void removeStands() {
        SkipQuadtree t = new SkipQuadtree();
        t.add(3, 1, 2);
        t.add(5, 1, 2);
        t.setVelocity(3, 5, 5);
        t.remove(3);
        duePoint(t, 3, 0, 0, 0, 0, 0, 2);
        duePoint(t, 5, 1, 1, 2, 0, 0);
        Check.due("points", 1, t.level(0, 0));
        t.remove(5);
        Check.due("points after removing the last", 0, t.level(0, 0));
        t.tick(3);
        duePoint(t, 3, 0, 0, 0, 0, 0, 2);
        SkipQuadtree all = Promise.crowd();
        for (int id = 0; id < 24; id++) {
            all.remove(id);
            Check.due("points behind " + id, 23 - id, all.level(0, 0));
        }
    }

    private static void removeUndoable() {
        Promise.undoable("remove(7)", t -> t.remove(7));
        SkipQuadtree t = Promise.crowd();
        t.remove(20);
        t.undo();
        duePoint(t, 20, 1, Promise.crowd().point(20, 1), Promise.crowd().point(20, 2), -9, 9, 0);
    }

    private static void removeIds() {
        Promise.range(Promise::crowd, "remove of the id", 0, 23, Promise.NO_INDEX, (t, id) -> t.remove(id));
        for (int id : new int[] {0, 23}) {
            SkipQuadtree t = Promise.crowd();
            t.remove(id);
            duePoint(t, id, 0, 0, 0, 0, 0);
            Check.due("points", 23, t.level(0, 0));
        }
    }

    private static void removeTouches() {
        SkipQuadtree t = new SkipQuadtree();
        t.add(1, 0, 0);
        t.add(3, 1, 1);
        t.add(5, 1, 1);
        Check.due("remove of one of two points on a position", 0, t.remove(5));
        Check.due("remove that ends a branch in two levels", 2, t.remove(3));
        Check.due("remove of the last point", 0, t.remove(1));
        t.add(7, 20, 20);
        t.add(15, 21, 20);
        Check.due("remove that touches the most", 4, t.remove(15));
    }

    private static void removeOutside() {
        Promise.refused("remove(24)", Promise.NO_INDEX, t -> t.remove(24));
        Promise.refused("remove(-1)", Promise.NO_INDEX, t -> t.remove(-1));
        Promise.outcome(SkipQuadtree::new, "remove(24) of none", Promise.NO_INDEX, t -> t.remove(24));
    }

    private static void removeNothing() {
        for (int id : new int[] {0, 3, 16, 23}) {
            Promise.refused("remove(" + id + ")", Promise.BAD_STATE, t -> t.remove(id));
            Promise.outcome(SkipQuadtree::new, "remove(" + id + ") of none", Promise.BAD_STATE, t -> t.remove(id));
        }
        SkipQuadtree t = Promise.busy();
        t.remove(7);
        Check.same("remove(7) again", Check.told(() -> t.remove(7)), Promise.BAD_STATE);
    }

    // ---- promise 5

    private static void velocityStands() {
        SkipQuadtree t = new SkipQuadtree();
        t.add(9, 30, 31);
        t.add(8, 30, 31);
        t.setVelocity(9, 3, -4);
        duePoint(t, 9, 1, 30, 31, 3, -4);
        duePoint(t, 8, 1, 30, 31, 0, 0);
        t.setVelocity(9, 0, 0);
        duePoint(t, 9, 1, 30, 31, 0, 0);
    }

    private static void velocityUndoable() {
        Promise.undoable("setVelocity(4, 1, -1)", t -> t.setVelocity(4, 1, -1));
        Promise.undoable("setVelocity of 7 to the same", t -> t.setVelocity(7, t.point(7, 3), t.point(7, 4)));
    }

    private static void velocityIds() {
        Promise.range(Promise::crowd, "setVelocity of the id", 0, 23, Promise.NO_INDEX,
            (t, id) -> t.setVelocity(id, 1, 2));
        for (int id : new int[] {0, 23}) {
            SkipQuadtree t = Promise.crowd();
            t.setVelocity(id, 1, 2);
            Check.due("u", 1, t.point(id, 3));
            Check.due("v", 2, t.point(id, 4));
        }
    }

    private static void velocityUs() {
        Promise.range(Promise::busy, "setVelocity with u", -9, 9, Promise.BAD_ARGUMENT,
            (t, u) -> t.setVelocity(7, u, 1));
        for (int u = -9; u <= 9; u++) {
            SkipQuadtree t = Promise.busy();
            t.setVelocity(7, u, 1);
            Check.due("u", u, t.point(7, 3));
            Check.due("v", 1, t.point(7, 4));
        }
    }

    private static void velocityVs() {
        Promise.range(Promise::busy, "setVelocity with v", -9, 9, Promise.BAD_ARGUMENT,
            (t, v) -> t.setVelocity(7, 1, v));
        for (int v = -9; v <= 9; v++) {
            SkipQuadtree t = Promise.busy();
            t.setVelocity(7, 1, v);
            Check.due("u", 1, t.point(7, 3));
            Check.due("v", v, t.point(7, 4));
        }
    }

    private static void velocityAnswers() {
        SkipQuadtree t = new SkipQuadtree();
        t.add(9, 30, 30);
        int[][] velocities = {{-9, 9}, {3, -4}, {0, -9}, {9, 0}, {-1, -1}, {9, 9}, {0, 0}};
        int due = 0;
        for (int[] velocity : velocities) {
            Check.due("setVelocity(9, " + velocity[0] + ", " + velocity[1] + ")", due,
                t.setVelocity(9, velocity[0], velocity[1]));
            due = 10 * Math.abs(velocity[0]) + Math.abs(velocity[1]);
        }
        Check.due("setVelocity(9, 1, 1) after (0, 0)", 0, t.setVelocity(9, 1, 1));
    }

    private static void velocityBeyondAll() {
        Promise.refused("setVelocity(24, 10, 10)", Promise.NO_INDEX, t -> t.setVelocity(24, 10, 10));
        Promise.refused("setVelocity(-1, -10, -10)", Promise.NO_INDEX, t -> t.setVelocity(-1, -10, -10));
    }

    private static void velocityArguments() {
        Promise.refused("setVelocity(7, 10, -10)", Promise.BAD_ARGUMENT, t -> t.setVelocity(7, 10, -10));
        Promise.refused("setVelocity(0, -10, 0) of no point", Promise.BAD_ARGUMENT, t -> t.setVelocity(0, -10, 0));
        Promise.refused("setVelocity(0, 0, 10) of no point", Promise.BAD_ARGUMENT, t -> t.setVelocity(0, 0, 10));
    }

    private static void velocityOfNothing() {
        for (int id : new int[] {0, 3, 16, 23}) {
            Promise.refused("setVelocity(" + id + ", 0, 0)", Promise.BAD_STATE, t -> t.setVelocity(id, 0, 0));
        }
        Promise.outcome(SkipQuadtree::new, "setVelocity(5, 9, 9) of none", Promise.BAD_STATE,
            t -> t.setVelocity(5, 9, 9));
    }

    private static void velocityOrder() {
        Promise.idAndTwo("setVelocity", -9, 9, 16, SkipQuadtree::setVelocity);
    }

    // ---- promise 6

    private static void tickStands() {
        SkipQuadtree t = new SkipQuadtree();
        t.add(0, 10, 20);
        t.setVelocity(0, 2, -3);
        t.tick(4);
        duePoint(t, 0, 1, 18, 8, 2, -3);
        Check.due("time()", 4, t.time());
        t.tick(1);
        duePoint(t, 0, 1, 20, 5, 2, -3);
        Check.due("time() then", 5, t.time());
    }

    private static void tickUndoable() {
        Promise.undoable("tick(1)", t -> t.tick(1));
        Promise.undoable("tick(50)", t -> t.tick(50));
        SkipQuadtree t = new SkipQuadtree();
        t.tick(1);
        Check.due("undo() of a tick without points", 0, t::undo);
        Promise.sameState("a tick without points and undo()", t, new SkipQuadtree());
    }

    private static void tickRange() {
        Promise.range(Promise::busy, "tick of", 1, 50, Promise.BAD_ARGUMENT, (t, ticks) -> t.tick(ticks));
        for (int ticks = 1; ticks <= 50; ticks++) {
            SkipQuadtree t = new SkipQuadtree();
            t.add(5, 7, 50);
            t.setVelocity(5, 1, -1);
            Check.due("tick(" + ticks + ")", 0, t.tick(ticks));
            duePoint(t, 5, 1, 7 + ticks, 50 - ticks, 1, -1);
            Check.due("time()", ticks, t.time());
        }
    }

    private static void tickTouches() {
        SkipQuadtree t = new SkipQuadtree();
        Check.due("tick(50) without points", 0, t.tick(50));
        t.add(0, 0, 0);
        t.add(2, 1, 0);
        t.setVelocity(2, 1, 0);
        Check.due("tick(1) from size 2 to size 4", 2, t.tick(1));
        Check.due("tick(1) within size 4", 0, t.tick(1));
        Check.due("tick(2) to size 8", 2, t.tick(2));
        t.move(2, 1, 0);
        t.setVelocity(2, -2, 0);
        Check.due("tick(1) reflected onto the same place", 0, t.tick(1));
        t.setVelocity(2, -1, 0);
        Check.due("tick(2) over the other point and back", 2, t.tick(2));
        t.setVelocity(2, 0, 0);
        Check.due("tick(50) of points that rest", 0, t.tick(50));
        SkipQuadtree high = new SkipQuadtree();
        high.add(7, 0, 0);
        high.add(15, 1, 0);
        high.setVelocity(15, 2, 0);
        high.setVelocity(7, 2, 0);
        Check.due("tick(50), each with two squares in four levels but where both lie apart", touchedByPair(),
            high.tick(50));
    }

    /** The two points 2 u - 1 apart lie in one square of 2, or, behind the reflection of one, in a greater one. */
    private static int touchedByPair() {
        int touched = 0;
        int[] pair = {0, 1};
        int[] speeds = {2, 2};
        for (int tick = 0; tick < 50; tick++) {
            String before = squareAround(pair);
            for (int k = 0; k < 2; k++) {
                int next = pair[k] + speeds[k];
                speeds[k] = next < 0 || next > 63 ? -speeds[k] : speeds[k];
                pair[k] = next < 0 ? -next : next > 63 ? 126 - next : next;
            }
            String after = squareAround(pair);
            touched += before.equals(after) ? 0 : (before.isEmpty() ? 0 : 4) + (after.isEmpty() ? 0 : 4);
        }
        return touched;
    }

    private static String squareAround(int[] pair) {
        for (int size = 2; size < 64; size *= 2) {
            if (pair[0] != pair[1] && pair[0] / size == pair[1] / size) {
                return size + " at " + pair[0] / size;
            }
        }
        return "";
    }

    private static void tickRefuses() {
        for (int ticks : new int[] {0, -1, -50, 51, 100}) {
            Promise.refused("tick(" + ticks + ")", Promise.BAD_ARGUMENT, t -> t.tick(ticks));
            Promise.outcome(SkipQuadtree::new, "tick(" + ticks + ") of none", Promise.BAD_ARGUMENT, t -> t.tick(ticks));
        }
    }

    // ---- motion

    private static void eachPointMoves() {
        SkipQuadtree t = new SkipQuadtree();
        t.scatter(0, 24, 1, 0);
        for (int id = 0; id < 24; id++) {
            t.move(id, 20 + id, 43 - id);
            t.setVelocity(id, id % 19 - 9, 9 - id % 10);
        }
        t.remove(12);
        t.tick(1);
        for (int id = 0; id < 24; id++) {
            int u = id % 19 - 9;
            int v = 9 - id % 10;
            duePoint(t, id, id == 12 ? new int[] {0, 0, 0, 0, 0} : new int[] {1, 20 + id + u, 43 - id + v, u, v});
        }
    }

    private static SkipQuadtree single(int x, int y, int u, int v) {
        SkipQuadtree t = new SkipQuadtree();
        t.add(11, x, y);
        t.setVelocity(11, u, v);
        t.tick(1);
        return t;
    }

    private static void reflectedAtZero() {
        duePoint(single(5, 30, -5, 0), 11, 1, 0, 30, -5, 0);
        duePoint(single(4, 30, -5, 0), 11, 1, 1, 30, 5, 0);
        duePoint(single(0, 30, -1, 0), 11, 1, 1, 30, 1, 0);
        duePoint(single(0, 30, -9, 0), 11, 1, 9, 30, 9, 0);
        duePoint(single(0, 30, 0, 0), 11, 1, 0, 30, 0, 0);
    }

    private static void reflectedAtEnd() {
        duePoint(single(58, 30, 5, 0), 11, 1, 63, 30, 5, 0);
        duePoint(single(59, 30, 5, 0), 11, 1, 62, 30, -5, 0);
        duePoint(single(63, 30, 1, 0), 11, 1, 62, 30, -1, 0);
        duePoint(single(63, 30, 9, 0), 11, 1, 54, 30, -9, 0);
        duePoint(single(63, 30, 0, 0), 11, 1, 63, 30, 0, 0);
    }

    /** With u 9 a way from 0 to 63 takes 7 ticks; a point at a border is reflected in the next tick only. */
    private static void reflectedForAndBack() {
        SkipQuadtree t = new SkipQuadtree();
        t.add(11, 0, 5);
        t.setVelocity(11, 9, 0);
        t.tick(7);
        duePoint(t, 11, 1, 63, 5, 9, 0);
        t.tick(7);
        duePoint(t, 11, 1, 0, 5, -9, 0);
        t.tick(1);
        duePoint(t, 11, 1, 9, 5, 9, 0);
        t.tick(13);
        duePoint(t, 11, 1, 0, 5, -9, 0);
        t.tick(50);
        duePoint(t, 11, 1, 54, 5, -9, 0);
        Check.due("setVelocity of a reflected point", 90, t.setVelocity(11, 0, 0));
    }

    private static void allReflections() {
        for (int place = 0; place < 64; place++) {
            SkipQuadtree t = new SkipQuadtree();
            t.add(0, place, 63 - place);
            for (int speed = -9; speed <= 9; speed++) {
                t.move(0, place, 63 - place);
                t.setVelocity(0, speed, speed);
                t.tick(1);
                int x = place + speed;
                int y = 63 - place + speed;
                boolean turned = x < 0 || x > 63;
                boolean turnedToo = y < 0 || y > 63;
                duePoint(t, 0, 1, x < 0 ? -x : turned ? 126 - x : x, y < 0 ? -y : turnedToo ? 126 - y : y,
                    turned ? -speed : speed, turnedToo ? -speed : speed);
            }
        }
    }

    private static void cursorsStay() {
        SkipQuadtree t = new SkipQuadtree();
        t.add(0, 10, 20);
        t.add(5, 12, 20);
        t.setVelocity(0, 9, 9);
        t.open(2, 5, 6);
        t.next(2);
        t.tick(50);
        int[] wants = {5, 6, 221, 0};
        for (int what = 0; what < 4; what++) {
            Check.due("cursor(2, " + what + ")", wants[what], t.cursor(2, what));
        }
        Check.due("next(2)", 5, t.next(2));
        Check.due("the center of a cursor that was not opened", 0, t.cursor(0, 0) + t.cursor(0, 1));
    }

    // ---- promise 7

    private static void scatterPlaces() {
        int[][] calls = {{0, 24, 64, 0}, {5, 19, 63, 999999}, {23, 1, 1, 4711}, {3, 7, 10, 500000}};
        for (int[] call : calls) {
            SkipQuadtree t = new SkipQuadtree();
            t.scatter(call[0], call[1], call[2], call[3]);
            BigInteger s = BigInteger.valueOf(call[3]);
            for (int id = 0; id < 24; id++) {
                if (id < call[0] || id >= call[0] + call[1]) {
                    duePoint(t, id, 0, 0, 0, 0, 0);
                    continue;
                }
                s = nextRandom(s);
                int x = placeIn(s, call[2]);
                s = nextRandom(s);
                duePoint(t, id, 1, x, placeIn(s, call[2]), 0, 0);
            }
        }
    }

    private static BigInteger nextRandom(BigInteger s) {
        return s.multiply(BigInteger.valueOf(1103515245)).add(BigInteger.valueOf(12345)).mod(BigInteger.TWO.pow(31));
    }

    private static int placeIn(BigInteger s, int area) {
        return s.divide(BigInteger.valueOf(65536)).mod(BigInteger.valueOf(area)).intValue();
    }

    private static void scatterMoves() {
        SkipQuadtree t = new SkipQuadtree();
        t.add(4, 60, 60);
        t.add(5, 60, 60);
        t.add(6, 50, 61);
        t.setVelocity(5, 4, -4);
        t.setVelocity(6, 1, 2);
        t.scatter(4, 2, 1, 77);
        duePoint(t, 4, 1, 0, 0, 0, 0);
        duePoint(t, 5, 1, 0, 0, 4, -4);
        duePoint(t, 6, 1, 50, 61, 1, 2);
        t.remove(5);
        t.scatter(5, 1, 1, 77);
        duePoint(t, 5, 1, 0, 0, 0, 0);
    }

    private static void scatterUndoable() {
        Promise.undoable("scatter(0, 24, 64, 9)", t -> t.scatter(0, 24, 64, 9));
        Promise.undoable("scatter(7, 1, 64, 9)", t -> t.scatter(7, 1, 64, 9));
        SkipQuadtree t = new SkipQuadtree();
        t.scatter(0, 24, 1, 5);
        t.scatter(0, 24, 1, 6);
        Check.due("undo() of a scatter that changes nothing", 1, t::undo);
        Check.due("undo() of the first", 0, t::undo);
        Check.due("points", 0, t.level(0, 0));
    }

    private static void scatterFirsts() {
        Promise.range(Promise::busy, "scatter from the id", 0, 23, Promise.NO_INDEX,
            (t, id) -> t.scatter(id, 1, 64, 5));
        for (int id : new int[] {0, 23}) {
            SkipQuadtree t = new SkipQuadtree();
            Check.due("scatter(" + id + ", 1, 1, 5)", 1, t.scatter(id, 1, 1, 5));
            duePoint(t, id, 1, 0, 0, 0, 0);
        }
    }

    private static void scatterManys() {
        for (int first = 0; first < 24; first++) {
            int from = first;
            Promise.range(Promise::busy, "scatter from " + first + ", as many as", 1, 24 - first, Promise.BAD_ARGUMENT,
                (t, many) -> t.scatter(from, many, 64, 5));
            Check.due("scatter of all from " + first, 24 - first,
                () -> new SkipQuadtree().scatter(from, 24 - from, 64, 5));
        }
    }

    private static void scatterAreas() {
        Promise.range(Promise::busy, "scatter in an area of", 1, 64, Promise.BAD_ARGUMENT,
            (t, area) -> t.scatter(0, 24, area, 5));
        for (int area = 1; area <= 64; area++) {
            int greatest = 0;
            for (int seed = 0; seed < 20; seed++) {
                SkipQuadtree t = new SkipQuadtree();
                t.scatter(0, 24, area, seed);
                for (int id = 0; id < 24; id++) {
                    greatest = Math.max(greatest, Math.max(t.point(id, 1), t.point(id, 2)));
                }
            }
            Check.due("the greatest x or y in an area of " + area, area - 1, greatest);
        }
    }

    private static void scatterSeeds() {
        Promise.range(Promise::busy, "scatter with the seed", 0, 999999, Promise.BAD_ARGUMENT,
            (t, seed) -> t.scatter(0, 24, 64, seed));
        SkipQuadtree t = new SkipQuadtree();
        t.scatter(0, 1, 64, 0);
        duePoint(t, 0, 1, 0, 1406932606 / 65536 % 64);
    }

    private static void scatterAnswers() {
        SkipQuadtree t = new SkipQuadtree();
        Check.due("scatter(5, 2, 64, 0)", 2, t.scatter(5, 2, 64, 0));
        Check.due("the same again", 2, t.scatter(5, 2, 64, 0));
        Check.due("scatter(6, 2, 64, 0)", 3, t.scatter(6, 2, 64, 0));
        Check.due("scatter(23, 1, 64, 0)", 4, t.scatter(23, 1, 64, 0));
        Check.due("scatter(0, 24, 64, 0)", 24, t.scatter(0, 24, 64, 0));
        Check.due("scatter(0, 1, 64, 0)", 24, t.scatter(0, 1, 64, 0));
    }

    private static void scatterOutside() {
        Promise.refused("scatter(24, 0, 0, -1)", Promise.NO_INDEX, t -> t.scatter(24, 0, 0, -1));
        Promise.refused("scatter(24, 1, 1, 1)", Promise.NO_INDEX, t -> t.scatter(24, 1, 1, 1));
        Promise.refused("scatter(-1, 25, 65, 1000000)", Promise.NO_INDEX, t -> t.scatter(-1, 25, 65, 1000000));
    }

    private static void scatterArguments() {
        Promise.refused("scatter(0, 25, 1, 0)", Promise.BAD_ARGUMENT, t -> t.scatter(0, 25, 1, 0));
        Promise.refused("scatter(23, 2, 1, 0)", Promise.BAD_ARGUMENT, t -> t.scatter(23, 2, 1, 0));
        Promise.refused("scatter(0, 1, 0, 0)", Promise.BAD_ARGUMENT, t -> t.scatter(0, 1, 0, 0));
        Promise.refused("scatter(0, 1, 1, -1)", Promise.BAD_ARGUMENT, t -> t.scatter(0, 1, 1, -1));
    }

    private static void scatterOrder() {
        int[][] ends = {{-1, 0, 23, 24}, {0, 1, 24}, {0, 1, 64, 65}, {-1, 0, 999999, 1000000}};
        for (int first : ends[0]) {
            for (int many : ends[1]) {
                for (int area : ends[2]) {
                    for (int seed : ends[3]) {
                        boolean fine = 1 <= many && many <= 24 - first && 1 <= area && area <= 64
                            && 0 <= seed && seed <= 999999;
                        String due = fine ? Promise.FINE : Promise.BAD_ARGUMENT;
                        due = first < 0 || first > 23 ? Promise.NO_INDEX : due;
                        Promise.outcome(Promise::busy,
                            "scatter(" + first + ", " + many + ", " + area + ", " + seed + ")", due,
                            t -> t.scatter(first, many, area, seed));
                    }
                }
            }
        }
    }

    // ---- promise 8

    private static void pointAnswers() {
        SkipQuadtree t = new SkipQuadtree();
        t.add(15, 12, 34);
        t.setVelocity(15, -5, 6);
        duePoint(t, 15, 1, 12, 34, -5, 6, 4);
        duePoint(t, 14, 0, 0, 0, 0, 0, 0);
        Promise.changesNothing("point(7, 1)", s -> s.point(7, 1));
    }

    private static void pointIds() {
        Promise.range(Promise::busy, "point of the id", 0, 23, Promise.NO_INDEX, (t, id) -> t.point(id, 0));
        SkipQuadtree t = new SkipQuadtree();
        t.add(0, 1, 2);
        t.add(23, 3, 4);
        duePoint(t, 0, 1, 1, 2, 0, 0, 0);
        duePoint(t, 23, 1, 3, 4, 0, 0, 3);
    }

    private static void pointWhats() {
        Promise.range(Promise::busy, "point, what", 0, 5, Promise.BAD_ARGUMENT, (t, what) -> t.point(7, what));
        Promise.range(SkipQuadtree::new, "point of none, what", 0, 5, Promise.BAD_ARGUMENT,
            (t, what) -> t.point(7, what));
    }

    private static void pointOfNothing() {
        SkipQuadtree t = Promise.crowd();
        for (int id = 0; id < 24; id++) {
            t.setVelocity(id, 9, -9);
        }
        for (int id = 0; id < 24; id++) {
            t.remove(id);
            duePoint(t, id, 0, 0, 0, 0, 0);
        }
        t.tick(50);
        for (int id = 0; id < 24; id++) {
            duePoint(t, id, 0, 0, 0, 0, 0);
        }
    }

    private static void pointOutside() {
        Promise.refused("point(24, 6)", Promise.NO_INDEX, t -> t.point(24, 6));
        Promise.refused("point(-1, -1)", Promise.NO_INDEX, t -> t.point(-1, -1));
    }

    private static void pointArguments() {
        Promise.refused("point(0, 6) of no point", Promise.BAD_ARGUMENT, t -> t.point(0, 6));
        Promise.refused("point(0, -1) of no point", Promise.BAD_ARGUMENT, t -> t.point(0, -1));
    }

    private static void heights() {
        int[] wants = {0, 1, 0, 2, 0, 1, 0, 3, 0, 1, 0, 2, 0, 1, 0, 4, 0, 1, 0, 2, 0, 1, 0, 3};
        SkipQuadtree t = new SkipQuadtree();
        for (int id = 0; id < 24; id++) {
            Check.due("point(" + id + ", 5)", wants[id], t.point(id, 5));
            t.add(id, id, id);
            Check.due("point(" + id + ", 5) of a point that exists", wants[id], t.point(id, 5));
        }
    }
}

import java.util.ArrayList;
import java.util.List;

/** Promises 9 to 14: levels, nodes, children and searches. */
final class SquarePromises {
    private SquarePromises() {
    }

    static void tests() {
        level();
        node();
        squares();
        child();
        search();
        searches();
        worst();
        wouldTouch();
    }

    private static void level() {
        Promise.test(9, "Returns a count of a level.", SquarePromises::levelsOfSample);
        Promise.test(9, "- `level`: 0 to 4", SquarePromises::levelLevels);
        Promise.test(9,
            "- `what`: 0 points of its set, 1 nodes, 2 greatest depth of a node, 3 positions that are children, "
            + "4 different positions of its points", SquarePromises::levelWhats);
        Promise.test(9, "Returns the count.", SquarePromises::leastAndGreatestCounts);
        Promise.test(9, "Throws `IndexOutOfBoundsException` if there is no such level", SquarePromises::levelOutside);
        Promise.test(9, "Throws `IllegalArgumentException` if what is out of range", SquarePromises::levelArguments);
        Promise.test(9, Promise.ALL_EXCEPTIONS, () -> Promise.indexAndWhat("level", 5, 4, SkipQuadtree::level));
        Promise.test(9,
            "There are the levels 0 to 4; the set of a level j consists of the points that exist and have a "
            + "height of at least j.", SquarePromises::sets);
    }

    private static void node() {
        Promise.test(10, "Returns a value of a node of a level.", SquarePromises::nodesOfSample);
        Promise.test(10, "- `level`: 0 to 4", SquarePromises::nodeLevels);
        Promise.test(10, "- `index`: number of the node in the order of the nodes, from 0",
            SquarePromises::nodeIndices);
        Promise.test(10, "- `what`: 0 a, 1 b, 2 size, 3 depth, 4 points of the set that it contains, 5 quadrants that "
            + "contain points of the set", SquarePromises::nodeWhats);
        Promise.test(10, "Returns that value.", SquarePromises::leastAndGreatestNodes);
        Promise.test(10, "Throws `IndexOutOfBoundsException` if there is no such level or node",
            SquarePromises::nodeOutside);
        Promise.test(10, "Throws `IllegalArgumentException` if what is out of range", SquarePromises::nodeArguments);
        Promise.test(10, Promise.ALL_EXCEPTIONS, SquarePromises::nodeOrder);
    }

    private static void squares() {
        Promise.test(10, "A square has a size s, one of 2, 4, 8, 16, 32, 64, and consists of the positions with "
            + "a <= x < a + s and b <= y < b + s, with a and b multiples of s.", SquarePromises::sizes);
        Promise.test(10, "A square is a node of a level if it is the whole (the one with the size 64)",
            SquarePromises::wholeIsNode);
        Promise.test(10, "or if at least two of its quadrants contain points of the set of the level",
            SquarePromises::twoQuadrants);
        Promise.test(10, "(So each node of a level is also one of the levels below.)", SquarePromises::nodesBelow);
        Promise.test(10,
            "The nodes of a level are ordered like this: the whole is the first one; a node is followed by all "
            + "nodes within its quadrant 0, then all within its quadrant 1, and so on (each of these in the same way).",
            SquarePromises::orderOfNodes);
        Promise.test(10, "The depth of a node of a level is the number of other nodes of the level that contain it.",
            SquarePromises::depths);
    }

    private static void child() {
        Promise.test(11, "Returns the child of a node of a level.", SquarePromises::childrenOfSample);
        Promise.test(11, "- `level`: 0 to 4", SquarePromises::childLevels);
        Promise.test(11, "- `index`: number of the node", SquarePromises::childIndices);
        Promise.test(11, "- `quadrant`: 0 to 3", SquarePromises::childQuadrants);
        Promise.test(11, "Returns the number of the node; 1000 + 64 * y + x for a position; NONE for nothing.",
            SquarePromises::childAnswers);
        Promise.test(11, "Throws `IndexOutOfBoundsException` if there is no such level or node",
            SquarePromises::childOutside);
        Promise.test(11, "Throws `IllegalArgumentException` if quadrant is out of range",
            SquarePromises::childArguments);
        Promise.test(11, Promise.ALL_EXCEPTIONS, SquarePromises::childOrder);
        Promise.test(11, Promise.NONE_LAST, SquarePromises::childNoneLast);
        Promise.test(11,
            "It has four quadrants of the size s / 2: 0 with the lesser x and the lesser y, 1 with the greater x "
            + "and the lesser y, 2 with the lesser x and the greater y, 3 with the greater x and the greater y.",
            SquarePromises::quadrants);
        Promise.test(11, "nothing, if the quadrant contains no point of the set", SquarePromises::childNothing);
        Promise.test(11, "a position, if all points of the set in the quadrant have the same position",
            SquarePromises::childPosition);
        Promise.test(11, "otherwise the greatest node of the level within the quadrant", SquarePromises::childGreatest);
    }

    private static void search() {
        Promise.test(12, "Searches for a position.", SquarePromises::searchesOfSample);
        Promise.test(12, "- `x`: 0 to 63", SquarePromises::searchXs);
        Promise.test(12, "- `y`: 0 to 63", SquarePromises::searchYs);
        Promise.test(12, "- `skip`: true for a skip search, false for a plain search", SquarePromises::skipOrPlain);
        Promise.test(12, "- `what`: 0 number of steps, 1 number of the node of level 0 that is found, 2 its size",
            SquarePromises::searchWhats);
        Promise.test(12, "Returns that value.", SquarePromises::leastAndGreatestSearch);
        Promise.test(12, "Throws `IllegalArgumentException` if an argument is out of range",
            SquarePromises::searchArguments);
    }

    private static void searches() {
        Promise.test(12, "A search for a position begins at a level with the whole.", SquarePromises::beginsWithWhole);
        Promise.test(12,
            "In a level it goes on from a node to its child in the quadrant that contains the position, as long "
            + "as this is a node that contains the position; each time is a step.", SquarePromises::goesOn);
        Promise.test(12,
            "Then, if the level is greater than 0, it goes on in the next lower level, from the same square; "
            + "this is a step, too.", SquarePromises::goesDown);
        Promise.test(12, "It ends in level 0, where it finds its last node.", SquarePromises::findsSmallest);
        Promise.test(12,
            "A skip search begins at the greatest level whose set is not empty (0, if there is no point), a "
            + "plain search at level 0.", SquarePromises::beginsAtGreatest);
    }

    private static void worst() {
        Promise.test(13, "Returns the greatest number of steps of a search for the position of a point.",
            SquarePromises::worstOfAll);
        Promise.test(13, "- `skip`: true for skip searches, false for plain searches",
            SquarePromises::worstSkipOrPlain);
        Promise.test(13, "Returns the greatest number; 0 without points.", SquarePromises::leastAndGreatestWorst);
    }

    private static void wouldTouch() {
        Promise.test(14, "Tells how many squares a move of a point would touch.", SquarePromises::wouldTouchAsMove);
        Promise.test(14, "Nothing changes.", SquarePromises::wouldTouchChangesNothing);
        Promise.test(14, "- `id`: 0 to 23", SquarePromises::wouldTouchIds);
        Promise.test(14, "- `x`: 0 to 63", SquarePromises::wouldTouchXs);
        Promise.test(14, "- `y`: 0 to 63", SquarePromises::wouldTouchYs);
        Promise.test(14, "Returns the number.", SquarePromises::leastAndGreatestTouch);
        Promise.test(14, "Throws `IndexOutOfBoundsException` if id is out of range",
            SquarePromises::wouldTouchBeyondAll);
        Promise.test(14, "Throws `IllegalArgumentException` if x or y is out of range",
            SquarePromises::wouldTouchArguments);
        Promise.test(14, "Throws `IllegalStateException` if there is no such point", SquarePromises::wouldTouchNothing);
        Promise.test(14, Promise.ALL_EXCEPTIONS, SquarePromises::wouldTouchOrder);
    }

    // ---- trees to begin with

    /**
     * Level 0 has the nodes 0 (0, 0) of 64, 1 (0, 0) of 16, 2 (0, 0) of 2, 3 (12, 12) of 4, 4 (32, 32) of 32;
     * level 1 has 0 (0, 0) of 64 and 1 (0, 0) of 16; level 2 has the whole alone.
     */
    private static SkipQuadtree sample() {
        SkipQuadtree t = new SkipQuadtree();
        t.add(0, 0, 0);
        t.add(1, 1, 0);
        t.add(2, 15, 15);
        t.add(3, 12, 13);
        t.add(4, 32, 40);
        t.add(6, 63, 33);
        return t;
    }

    /** Each id at x = id, y = 0: the most nodes that a level can have, 24. */
    private static SkipQuadtree line() {
        SkipQuadtree t = new SkipQuadtree();
        for (int id = 0; id < 24; id++) {
            t.add(id, id, 0);
        }
        return t;
    }

    /** In level 0 alone a square of each size in the next greater one; level 4 has a point far away. */
    private static SkipQuadtree chain() {
        SkipQuadtree t = new SkipQuadtree();
        int[] xs = {0, 1, 2, 4, 8, 16, 32};
        for (int k = 0; k < xs.length; k++) {
            t.add(2 * k, xs[k], 0);
        }
        t.add(15, 63, 63);
        return t;
    }

    private static SkipQuadtree allTogether() {
        SkipQuadtree t = new SkipQuadtree();
        t.scatter(0, 24, 1, 5);
        return t;
    }

    private static void dueLevel(SkipQuadtree t, int level, int... wants) {
        for (int what = 0; what < 5; what++) {
            Check.due("level(" + level + ", " + what + ")", wants[what], t.level(level, what));
        }
    }

    private static void dueNode(SkipQuadtree t, int level, int index, int... wants) {
        for (int what = 0; what < wants.length; what++) {
            int asked = what;
            Check.due("node(" + level + ", " + index + ", " + what + ")", wants[what],
                () -> t.node(level, index, asked));
        }
    }

    private static void dueChildren(SkipQuadtree t, int level, int index, int... wants) {
        for (int quadrant = 0; quadrant < 4; quadrant++) {
            int asked = quadrant;
            Check.due("child(" + level + ", " + index + ", " + quadrant + ")", wants[quadrant],
                () -> t.child(level, index, asked));
        }
    }

    private static void dueSearch(SkipQuadtree t, int x, int y, boolean skip, int... wants) {
        for (int what = 0; what < 3; what++) {
            int asked = what;
            Check.due("search(" + x + ", " + y + ", " + skip + ", " + what + ")", wants[what],
                () -> t.search(x, y, skip, asked));
        }
    }

    private static int position(int x, int y) {
        return 1000 + 64 * y + x;
    }

    // ---- promise 9

    private static void levelsOfSample() {
        SkipQuadtree t = sample();
        dueLevel(t, 0, 6, 5, 2, 6, 6);
        dueLevel(t, 1, 2, 2, 1, 2, 2);
        dueLevel(t, 2, 1, 1, 0, 1, 1);
        dueLevel(t, 3, 0, 1, 0, 0, 0);
        dueLevel(t, 4, 0, 1, 0, 0, 0);
        t.add(23, 63, 33);
        dueLevel(t, 0, 7, 5, 2, 6, 6);
        dueLevel(t, 3, 1, 1, 0, 1, 1);
        Promise.changesNothing("level(0, 3)", s -> s.level(0, 3));
    }

    private static void levelLevels() {
        Promise.range(Promise::busy, "level of", 0, 4, Promise.NO_INDEX, (t, level) -> t.level(level, 0));
        Promise.range(SkipQuadtree::new, "empty level of", 0, 4, Promise.NO_INDEX, (t, level) -> t.level(level, 0));
    }

    private static void levelWhats() {
        for (int level = 0; level < 5; level++) {
            int asked = level;
            Promise.range(Promise::busy, "level " + level + ", what", 0, 4, Promise.BAD_ARGUMENT,
                (t, what) -> t.level(asked, what));
        }
    }

    private static void leastAndGreatestCounts() {
        for (int level = 0; level < 5; level++) {
            dueLevel(new SkipQuadtree(), level, 0, 1, 0, 0, 0);
            dueLevel(allTogether(), level, new int[] {24, 12, 6, 3, 1}[level], 1, 0, 1, 1);
        }
        SkipQuadtree t = line();
        dueLevel(t, 0, 24, 24, 5, 24, 24);
        dueLevel(t, 1, 12, 12, 4, 12, 12);
        dueLevel(t, 2, 6, 6, 3, 6, 6);
        dueLevel(t, 3, 3, 3, 2, 3, 3);
        dueLevel(t, 4, 1, 1, 0, 1, 1);
    }

    private static void levelOutside() {
        Promise.refused("level(5, 5)", Promise.NO_INDEX, t -> t.level(5, 5));
        Promise.refused("level(-1, -1)", Promise.NO_INDEX, t -> t.level(-1, -1));
    }

    private static void levelArguments() {
        Promise.refused("level(4, 5)", Promise.BAD_ARGUMENT, t -> t.level(4, 5));
        Promise.refused("level(0, -1)", Promise.BAD_ARGUMENT, t -> t.level(0, -1));
    }

    private static void sets() {
        int[] heights = {0, 1, 0, 2, 0, 1, 0, 3, 0, 1, 0, 2, 0, 1, 0, 4, 0, 1, 0, 2, 0, 1, 0, 3};
        int[] points = new int[5];
        SkipQuadtree all = new SkipQuadtree();
        for (int id = 0; id < 24; id++) {
            all.add(id, id, 2 * id);
            SkipQuadtree alone = new SkipQuadtree();
            alone.add(id, 5, 6);
            for (int level = 0; level < 5; level++) {
                int inside = heights[id] >= level ? 1 : 0;
                points[level] += inside;
                dueLevel(alone, level, inside, 1, 0, inside, inside);
                Check.due("level(" + level + ", 0) with the ids to " + id, points[level], all.level(level, 0));
            }
        }
        all.remove(15);
        Check.due("level(4, 0) without 15", 0, all.level(4, 0));
        Check.due("level(0, 0) without 15", 23, all.level(0, 0));
    }

    // ---- promise 10

    private static void nodesOfSample() {
        SkipQuadtree t = sample();
        dueNode(t, 0, 0, 0, 0, 64, 0, 6, 2);
        dueNode(t, 0, 1, 0, 0, 16, 1, 4, 2);
        dueNode(t, 0, 2, 0, 0, 2, 2, 2, 2);
        dueNode(t, 0, 3, 12, 12, 4, 2, 2, 2);
        dueNode(t, 0, 4, 32, 32, 32, 1, 2, 2);
        dueNode(t, 1, 1, 0, 0, 16, 1, 2, 2);
        dueNode(t, 2, 0, 0, 0, 64, 0, 1, 1);
        Promise.changesNothing("node(0, 0, 4)", s -> s.node(0, 0, 4));
    }

    private static void nodeLevels() {
        Promise.range(Promise::busy, "node of the level", 0, 4, Promise.NO_INDEX, (t, level) -> t.node(level, 0, 0));
        dueNode(sample(), 4, 0, 0, 0, 64, 0, 0, 0);
    }

    private static void nodeIndices() {
        for (int level = 0; level < 5; level++) {
            int asked = level;
            Promise.range(SkipQuadtree::new, "node of the empty level " + level, 0, 0, Promise.NO_INDEX,
                (t, index) -> t.node(asked, index, 0));
            int nodes = new int[] {24, 12, 6, 3, 1}[level];
            Promise.range(SquarePromises::line, "node of the level " + level, 0, nodes - 1, Promise.NO_INDEX,
                (t, index) -> t.node(asked, index, 0));
        }
        SkipQuadtree t = sample();
        t.remove(6);
        Check.same("the last node, which is none any more", Check.told(() -> t.node(0, 4, 0)), Promise.NO_INDEX);
        t.undo();
        dueNode(t, 0, 4, 32, 32, 32);
    }

    private static void nodeWhats() {
        Promise.range(Promise::busy, "node, what", 0, 5, Promise.BAD_ARGUMENT, (t, what) -> t.node(0, 0, what));
        Promise.range(SquarePromises::line, "last node, what", 0, 5, Promise.BAD_ARGUMENT,
            (t, what) -> t.node(0, 23, what));
    }

    private static void leastAndGreatestNodes() {
        dueNode(line(), 0, 0, 0, 0, 64, 0, 24, 1);
        dueNode(line(), 0, 23, 22, 0, 2, 4, 2, 2);
        SkipQuadtree t = new SkipQuadtree();
        t.add(0, 62, 62);
        t.add(2, 63, 63);
        t.add(4, 0, 0);
        dueNode(t, 0, 0, 0, 0, 64, 0, 3, 2);
        dueNode(t, 0, 1, 62, 62, 2, 1, 2, 2);
        t.add(6, 62, 63);
        dueNode(t, 0, 1, 62, 62, 2, 1, 3, 3);
        t.add(8, 63, 62);
        dueNode(t, 0, 1, 62, 62, 2, 1, 4, 4);
        t.add(10, 63, 62);
        dueNode(t, 0, 1, 62, 62, 2, 1, 5, 4);
        t.scatter(0, 24, 64, 77);
        dueNode(t, 0, 0, 0, 0, 64, 0, 24, 4);
    }

    private static void nodeOutside() {
        Promise.refused("node(5, 0, 6)", Promise.NO_INDEX, t -> t.node(5, 0, 6));
        Promise.refused("node(-1, -1, -1)", Promise.NO_INDEX, t -> t.node(-1, -1, -1));
        Promise.refused("node(0, 24, 6)", Promise.NO_INDEX, t -> t.node(0, 24, 6));
        Promise.refused("node(4, 1, -1)", Promise.NO_INDEX, t -> t.node(4, 1, -1));
        Promise.refused("node(4, -1, 0)", Promise.NO_INDEX, t -> t.node(4, -1, 0));
    }

    private static void nodeArguments() {
        Promise.refused("node(4, 0, 6)", Promise.BAD_ARGUMENT, t -> t.node(4, 0, 6));
        Promise.refused("node(0, 0, -1)", Promise.BAD_ARGUMENT, t -> t.node(0, 0, -1));
    }

    private interface NodeAsk {
        long of(SkipQuadtree tree, int level, int index, int value);
    }

    private static void nodeOrder() {
        order("node", 5, SkipQuadtree::node);
    }

    private static void order(String name, int greatest, NodeAsk call) {
        for (int level : new int[] {-1, 0, 4, 5}) {
            int nodes = level == 0 ? 5 : 1;
            for (int index : new int[] {-1, 0, nodes - 1, nodes}) {
                for (int value : new int[] {-1, 0, greatest, greatest + 1}) {
                    boolean noNode = level < 0 || level > 4 || index < 0 || index >= nodes;
                    boolean bad = value < 0 || value > greatest;
                    String due = noNode ? Promise.NO_INDEX : bad ? Promise.BAD_ARGUMENT : Promise.FINE;
                    String what = name + "(" + level + ", " + index + ", " + value + ")";
                    Promise.outcome(SquarePromises::sample, what, due, t -> call.of(t, level, index, value));
                }
            }
        }
    }

    // ---- squares

    private static void sizes() {
        SkipQuadtree t = chain();
        for (int k = 0; k < 6; k++) {
            dueNode(t, 0, k, 0, 0, 64 >> k);
        }
        SkipQuadtree far = new SkipQuadtree();
        int[] places = {63, 62, 61, 59, 55, 47, 31};
        for (int k = 0; k < places.length; k++) {
            far.add(2 * k, places[k], places[k]);
        }
        for (int k = 0; k < 6; k++) {
            int size = 64 >> k;
            dueNode(far, 0, k, 64 - size, 64 - size, size, k, 7 - k, 2);
        }
        Check.due("nodes at the far corner", 6, far.level(0, 1));
    }

    private static void wholeIsNode() {
        for (int level = 0; level < 5; level++) {
            dueNode(new SkipQuadtree(), level, 0, 0, 0, 64, 0, 0, 0);
            dueNode(allTogether(), level, 0, 0, 0, 64, 0, new int[] {24, 12, 6, 3, 1}[level], 1);
            dueNode(line(), level, 0, 0, 0, 64, 0, new int[] {24, 12, 6, 3, 1}[level], 1);
        }
    }

    /** Two points in each two quadrants of a square of each size, at the corners where they are near and far. */
    private static void twoQuadrants() {
        for (int size = 2; size <= 64; size *= 2) {
            int a = size == 64 ? 0 : 64 - size;
            int b = size == 64 ? 0 : (32 / size) * size;
            for (int pair = 0; pair < 16; pair++) {
                int first = pair % 4;
                int second = pair / 4;
                SkipQuadtree t = new SkipQuadtree();
                int half = size / 2;
                t.add(0, a + first % 2 * half, b + first / 2 * half);
                t.add(2, a + second % 2 * half + half - 1, b + second / 2 * half + half - 1);
                boolean apart = first != second;
                int greatest = apart ? size : half;
                Check.due("nodes for " + size + ", " + first + ", " + second, greatest < 2 || greatest == 64 ? 1 : 2,
                    t.level(0, 1));
                Check.due("quadrants of the whole with points", apart && size == 64 ? 2 : 1, t.node(0, 0, 5));
                if (greatest >= 2 && greatest < 64) {
                    int left = apart ? a : a + first % 2 * half;
                    int low = apart ? b : b + first / 2 * half;
                    dueNode(t, 0, 1, left, low, greatest, 1, 2, 2);
                }
            }
        }
    }

    private static List<String> squaresOf(SkipQuadtree t, int level) {
        List<String> squares = new ArrayList<>();
        for (int index = 0; index < t.level(level, 1); index++) {
            squares.add(t.node(level, index, 0) + " " + t.node(level, index, 1) + " " + t.node(level, index, 2));
        }
        return squares;
    }

    private static void nodesBelow() {
        for (int seed = 0; seed < 50; seed++) {
            SkipQuadtree t = new SkipQuadtree();
            t.scatter(0, 24, seed % 2 == 0 ? 64 : 12, seed);
            for (int level = 1; level < 5; level++) {
                int above = level;
                boolean all = squaresOf(t, level - 1).containsAll(squaresOf(t, level));
                Check.due("all nodes of level " + above + " below it, seed " + seed, 1, all ? 1 : 0);
            }
        }
    }

    /** A square of 2 at each corner of the whole and of its quadrant 0, and one of 16 around those of quadrant 2. */
    private static void orderOfNodes() {
        SkipQuadtree t = new SkipQuadtree();
        int[][] points = {{62, 62}, {63, 63}, {0, 62}, {1, 63}, {62, 0}, {63, 1}, {30, 30}, {31, 31}, {0, 30}, {1, 31},
            {30, 0}, {31, 1}, {0, 0}, {1, 1}, {15, 48}};
        for (int id = 0; id < points.length; id++) {
            t.add(id, points[id][0], points[id][1]);
        }
        int[][] nodes = {{0, 0, 64, 0, 15, 4}, {0, 0, 32, 1, 8, 4}, {0, 0, 2, 2, 2, 2}, {30, 0, 2, 2, 2, 2},
            {0, 30, 2, 2, 2, 2}, {30, 30, 2, 2, 2, 2}, {62, 0, 2, 1, 2, 2}, {0, 48, 16, 1, 3, 2}, {0, 62, 2, 2, 2, 2},
            {62, 62, 2, 1, 2, 2}};
        for (int index = 0; index < nodes.length; index++) {
            dueNode(t, 0, index, nodes[index]);
        }
        Check.due("nodes", nodes.length, t.level(0, 1));
        int[][] inLine = {{0, 0, 64}, {0, 0, 32}, {0, 0, 16}, {0, 0, 8}, {0, 0, 4}, {0, 0, 2}, {2, 0, 2}, {4, 0, 4},
            {4, 0, 2}, {6, 0, 2}, {8, 0, 8}, {8, 0, 4}, {8, 0, 2}, {10, 0, 2}, {12, 0, 4}, {12, 0, 2}, {14, 0, 2},
            {16, 0, 8}, {16, 0, 4}, {16, 0, 2}, {18, 0, 2}, {20, 0, 4}, {20, 0, 2}, {22, 0, 2}};
        for (int index = 0; index < inLine.length; index++) {
            dueNode(line(), 0, index, inLine[index]);
        }
    }

    private static void depths() {
        SkipQuadtree t = chain();
        for (int k = 0; k < 6; k++) {
            Check.due("node(0, " + k + ", 3)", k, t.node(0, k, 3));
        }
        for (int level = 1; level < 5; level++) {
            Check.due("greatest depth of level " + level, 0, t.level(level, 2));
        }
        int[] inLine = {0, 1, 2, 3, 4, 5, 5, 4, 5, 5, 3, 4, 5, 5, 4, 5, 5, 2, 3, 4, 4, 3, 4, 4};
        for (int index = 0; index < 24; index++) {
            Check.due("node(0, " + index + ", 3) in line", inLine[index], line().node(0, index, 3));
        }
        SkipQuadtree beside = new SkipQuadtree();
        beside.add(0, 0, 0);
        beside.add(2, 1, 1);
        beside.add(4, 62, 62);
        beside.add(6, 63, 63);
        Check.due("the first of two nodes beside one another", 1, beside.node(0, 1, 3));
        Check.due("the second of two nodes beside one another", 1, beside.node(0, 2, 3));
    }

    // ---- promise 11

    private static void childrenOfSample() {
        SkipQuadtree t = sample();
        dueChildren(t, 0, 0, 1, -1, -1, 4);
        dueChildren(t, 0, 1, 2, -1, -1, 3);
        dueChildren(t, 0, 2, 1000, 1001, -1, -1);
        dueChildren(t, 0, 3, position(12, 13), -1, -1, position(15, 15));
        dueChildren(t, 0, 4, position(32, 40), position(63, 33), -1, -1);
        dueChildren(t, 1, 0, 1, -1, -1, -1);
        dueChildren(t, 1, 1, position(1, 0), -1, -1, position(12, 13));
        dueChildren(t, 2, 0, position(12, 13), -1, -1, -1);
        Promise.changesNothing("child(0, 0, 3)", s -> s.child(0, 0, 3));
    }

    private static void childLevels() {
        Promise.range(Promise::busy, "child in the level", 0, 4, Promise.NO_INDEX, (t, level) -> t.child(level, 0, 0));
    }

    private static void childIndices() {
        Promise.range(SkipQuadtree::new, "child of the only node", 0, 0, Promise.NO_INDEX,
            (t, index) -> t.child(0, index, 0));
        Promise.range(SquarePromises::line, "child of the node", 0, 23, Promise.NO_INDEX,
            (t, index) -> t.child(0, index, 0));
        Promise.range(SquarePromises::line, "child of the node", 0, 11, Promise.NO_INDEX,
            (t, index) -> t.child(1, index, 0));
    }

    private static void childQuadrants() {
        Promise.range(Promise::busy, "child in the quadrant", 0, 3, Promise.BAD_ARGUMENT,
            (t, part) -> t.child(0, 0, part));
        Promise.range(SkipQuadtree::new, "child in the empty quadrant", 0, 3, Promise.BAD_ARGUMENT,
            (t, part) -> t.child(4, 0, part));
    }

    private static void childAnswers() {
        SkipQuadtree t = new SkipQuadtree();
        dueChildren(t, 0, 0, -1, -1, -1, -1);
        t.add(0, 0, 0);
        t.add(1, 63, 0);
        t.add(2, 0, 63);
        t.add(3, 63, 63);
        dueChildren(t, 0, 0, 1000, 1063, 5032, 5095);
        SkipQuadtree line = line();
        dueChildren(line, 0, 0, 1, -1, -1, -1);
        dueChildren(line, 0, 1, 2, 17, -1, -1);
        dueChildren(line, 0, 17, 18, 21, -1, -1);
        dueChildren(line, 0, 21, 22, 23, -1, -1);
        dueChildren(line, 0, 23, 1022, 1023, -1, -1);
    }

    private static void childOutside() {
        Promise.refused("child(5, 0, 4)", Promise.NO_INDEX, t -> t.child(5, 0, 4));
        Promise.refused("child(-1, -1, -1)", Promise.NO_INDEX, t -> t.child(-1, -1, -1));
        Promise.refused("child(0, 24, 4)", Promise.NO_INDEX, t -> t.child(0, 24, 4));
        Promise.refused("child(4, 1, 0)", Promise.NO_INDEX, t -> t.child(4, 1, 0));
    }

    private static void childArguments() {
        Promise.refused("child(0, 0, 4)", Promise.BAD_ARGUMENT, t -> t.child(0, 0, 4));
        Promise.refused("child(4, 0, -1)", Promise.BAD_ARGUMENT, t -> t.child(4, 0, -1));
    }

    private static void childOrder() {
        order("child", 3, SkipQuadtree::child);
    }

    private static void childNoneLast() {
        Promise.outcome(SkipQuadtree::new, "child(0, 0, 4) of none", Promise.BAD_ARGUMENT, t -> t.child(0, 0, 4));
        Promise.outcome(SkipQuadtree::new, "child(0, 1, 0) of none", Promise.NO_INDEX, t -> t.child(0, 1, 0));
    }

    /** Squares of each size, with a point at the least, or at the greatest, position of each quadrant. */
    private static void quadrants() {
        for (int size = 2; size <= 64; size *= 2) {
            int half = size / 2;
            for (int inner = 0; inner < half; inner += Math.max(1, half - 1)) {
                SkipQuadtree t = new SkipQuadtree();
                int a = 64 - size;
                int[] wants = new int[4];
                for (int quadrant = 0; quadrant < 4; quadrant++) {
                    int x = a + inner + (quadrant == 1 || quadrant == 3 ? half : 0);
                    int y = a + inner + (quadrant >= 2 ? half : 0);
                    t.add(2 * quadrant, x, y);
                    wants[quadrant] = position(x, y);
                }
                dueChildren(t, 0, size == 64 ? 0 : 1, wants);
            }
        }
    }

    private static void childNothing() {
        SkipQuadtree t = new SkipQuadtree();
        t.add(0, 31, 31);
        dueChildren(t, 0, 0, position(31, 31), -1, -1, -1);
        dueChildren(t, 1, 0, -1, -1, -1, -1);
        t.move(0, 32, 31);
        dueChildren(t, 0, 0, -1, position(32, 31), -1, -1);
        t.move(0, 31, 32);
        dueChildren(t, 0, 0, -1, -1, position(31, 32), -1);
        t.move(0, 32, 32);
        dueChildren(t, 0, 0, -1, -1, -1, position(32, 32));
        t.remove(0);
        dueChildren(t, 0, 0, -1, -1, -1, -1);
    }

    private static void childPosition() {
        for (int level = 0; level < 5; level++) {
            dueChildren(allTogether(), level, 0, 1000, -1, -1, -1);
        }
        SkipQuadtree t = new SkipQuadtree();
        t.add(5, 10, 50);
        t.add(8, 10, 50);
        t.add(9, 10, 51);
        dueChildren(t, 0, 0, -1, -1, 1, -1);
        dueChildren(t, 0, 1, position(10, 50), -1, position(10, 51), -1);
        dueChildren(t, 1, 0, -1, -1, 1, -1);
        t.move(9, 10, 50);
        dueChildren(t, 0, 0, -1, -1, position(10, 50), -1);
        dueChildren(t, 1, 0, -1, -1, position(10, 50), -1);
    }

    private static void childGreatest() {
        SkipQuadtree t = chain();
        for (int k = 0; k < 5; k++) {
            Check.due("child(0, " + k + ", 0)", k + 1, t.child(0, k, 0));
        }
        Check.due("child(0, 5, 0)", 1000, t.child(0, 5, 0));
        SkipQuadtree small = new SkipQuadtree();
        small.add(0, 40, 20);
        small.add(2, 41, 20);
        dueChildren(small, 0, 0, -1, 1, -1, -1);
        dueNode(small, 0, 1, 40, 20, 2);
        small.add(4, 47, 20);
        dueChildren(small, 0, 0, -1, 1, -1, -1);
        dueNode(small, 0, 1, 40, 16, 8);
        dueChildren(small, 0, 1, -1, -1, 2, position(47, 20));
    }

    // ---- promise 12

    private static void searchesOfSample() {
        SkipQuadtree t = sample();
        dueSearch(t, 1, 0, false, 2, 2, 2);
        dueSearch(t, 1, 0, true, 4, 2, 2);
        dueSearch(t, 12, 12, false, 2, 3, 4);
        dueSearch(t, 50, 50, false, 1, 4, 32);
        dueSearch(t, 50, 50, true, 3, 4, 32);
        dueSearch(t, 40, 3, false, 0, 0, 64);
        Promise.changesNothing("search(1, 1, true, 0)", s -> s.search(1, 1, true, 0));
    }

    private static void searchXs() {
        Promise.range(Promise::busy, "search with x", 0, 63, Promise.BAD_ARGUMENT, (t, x) -> t.search(x, 5, true, 0));
        dueSearch(sample(), 0, 40, false, 0, 0, 64);
        dueSearch(sample(), 63, 40, false, 1, 4, 32);
    }

    private static void searchYs() {
        Promise.range(Promise::busy, "search with y", 0, 63, Promise.BAD_ARGUMENT, (t, y) -> t.search(5, y, false, 1));
        dueSearch(sample(), 40, 0, false, 0, 0, 64);
        dueSearch(sample(), 40, 63, false, 1, 4, 32);
    }

    private static void skipOrPlain() {
        SkipQuadtree t = chain();
        dueSearch(t, 0, 0, false, 5, 5, 2);
        dueSearch(t, 0, 0, true, 9, 5, 2);
        dueSearch(t, 63, 63, false, 0, 0, 64);
        dueSearch(t, 63, 63, true, 4, 0, 64);
    }

    private static void searchWhats() {
        Promise.range(Promise::busy, "search, what", 0, 2, Promise.BAD_ARGUMENT,
            (t, what) -> t.search(5, 5, true, what));
        Promise.range(SkipQuadtree::new, "search without points, what", 0, 2, Promise.BAD_ARGUMENT,
            (t, what) -> t.search(5, 5, false, what));
    }

    private static void leastAndGreatestSearch() {
        dueSearch(new SkipQuadtree(), 0, 0, false, 0, 0, 64);
        dueSearch(new SkipQuadtree(), 63, 63, true, 0, 0, 64);
        dueSearch(line(), 23, 0, false, 4, 23, 2);
        dueSearch(line(), 23, 1, false, 4, 23, 2);
        dueSearch(line(), 23, 2, false, 3, 21, 4);
        dueSearch(line(), 24, 0, false, 1, 1, 32);
        dueSearch(chain(), 1, 1, true, 9, 5, 2);
    }

    private static void searchArguments() {
        for (int x : new int[] {-1, 0, 63, 64}) {
            for (int y : new int[] {-1, 0, 63, 64}) {
                for (int what : new int[] {-1, 0, 2, 3}) {
                    boolean bad = x < 0 || x > 63 || y < 0 || y > 63 || what < 0 || what > 2;
                    String due = bad ? Promise.BAD_ARGUMENT : Promise.FINE;
                    Promise.refused("search(" + x + ", " + y + ", true, " + what + ")", due,
                        t -> t.search(x, y, true, what));
                }
            }
        }
    }

    private static void beginsWithWhole() {
        SkipQuadtree t = new SkipQuadtree();
        t.add(0, 40, 40);
        t.add(2, 41, 41);
        dueSearch(t, 40, 41, false, 1, 1, 2);
        dueSearch(t, 42, 40, false, 0, 0, 64);
        dueSearch(t, 3, 3, false, 0, 0, 64);
    }

    /** A child may be a node that does not contain the position, or a position: then a search stays above it. */
    private static void goesOn() {
        SkipQuadtree t = sample();
        dueSearch(t, 20, 20, false, 0, 0, 64);
        dueSearch(t, 9, 9, false, 1, 1, 16);
        dueSearch(t, 15, 15, false, 2, 3, 4);
        dueSearch(t, 11, 12, false, 1, 1, 16);
        dueSearch(t, 9, 9, true, 3, 1, 16);
        dueSearch(t, 63, 33, false, 1, 4, 32);
        SkipQuadtree deep = chain();
        for (int k = 0; k < 5; k++) {
            int place = 32 >> k;
            dueSearch(deep, place, 0, false, k, k, 64 >> k);
            dueSearch(deep, place - 1, 0, false, k + 1, k + 1, 32 >> k);
        }
    }

    /** A square may have another number in each level. */
    private static void goesDown() {
        SkipQuadtree t = new SkipQuadtree();
        t.add(0, 0, 0);
        t.add(2, 1, 0);
        t.add(1, 40, 40);
        t.add(3, 60, 60);
        t.add(5, 0, 40);
        t.add(4, 2, 41);
        t.add(6, 34, 34);
        dueSearch(t, 60, 60, true, 3, 3, 32);
        dueSearch(t, 34, 34, true, 4, 4, 16);
        dueSearch(t, 2, 41, true, 3, 2, 4);
        SkipQuadtree line = line();
        dueSearch(line, 0, 0, true, 9, 5, 2);
        dueSearch(line, 23, 0, true, 8, 23, 2);
    }

    /** The node that a search finds is the smallest of level 0 that contains the position, whichever way it comes. */
    private static void findsSmallest() {
        for (int seed = 0; seed < 400; seed++) {
            int area = seed % 2 == 0 ? 64 : 20;
            SkipQuadtree t = new SkipQuadtree();
            t.scatter(0, 24, area, seed);
            int x = 37 * seed % area;
            int y = 29 * seed % area;
            int smallest = 0;
            int nodes = t.level(0, 1);
            for (int index = 0; index < nodes; index++) {
                smallest = contains(t, 0, index, x, y) ? index : smallest;
            }
            int size = t.node(0, smallest, 2);
            dueSearch(t, x, y, false, t.node(0, smallest, 3), smallest, size);
            dueSearch(t, x, y, true, stepsDown(t, x, y), smallest, size);
        }
    }

    private static boolean contains(SkipQuadtree t, int level, int index, int x, int y) {
        int size = t.node(level, index, 2);
        return x / size == t.node(level, index, 0) / size && y / size == t.node(level, index, 1) / size;
    }

    /** A step for each level below the greatest, and for each node that is smaller than all that were found above. */
    private static int stepsDown(SkipQuadtree t, int x, int y) {
        int steps = 4;
        int reached = 64;
        for (int level = 4; level >= 0; level--) {
            int smallest = reached;
            int nodes = t.level(level, 1);
            for (int index = 0; index < nodes; index++) {
                int size = t.node(level, index, 2);
                if (size < reached && contains(t, level, index, x, y)) {
                    steps++;
                    smallest = Math.min(smallest, size);
                }
            }
            reached = smallest;
        }
        return steps;
    }

    private static void beginsAtGreatest() {
        dueSearch(new SkipQuadtree(), 5, 5, true, 0, 0, 64);
        int[] heights = {0, 1, 0, 2, 0, 1, 0, 3, 0, 1, 0, 2, 0, 1, 0, 4, 0, 1, 0, 2, 0, 1, 0, 3};
        for (int id = 0; id < 24; id++) {
            SkipQuadtree t = new SkipQuadtree();
            t.add(id, 5, 5);
            dueSearch(t, 9, 9, true, heights[id], 0, 64);
            dueSearch(t, 9, 9, false, 0, 0, 64);
        }
        SkipQuadtree t = sample();
        t.add(15, 62, 62);
        dueSearch(t, 1, 0, true, 6, 2, 2);
        t.remove(15);
        dueSearch(t, 1, 0, true, 4, 2, 2);
        t.remove(3);
        dueSearch(t, 1, 0, true, 3, 2, 2);
        t.remove(1);
        dueSearch(t, 0, 0, true, 1, 1, 16);
    }

    // ---- promise 13

    private static void worstOfAll() {
        for (int seed = 0; seed < 30; seed++) {
            SkipQuadtree t = new SkipQuadtree();
            t.scatter(seed % 24, 24 - seed % 24, seed % 2 == 0 ? 64 : 9, seed);
            int plain = 0;
            int skip = 0;
            for (int id = seed % 24; id < 24; id++) {
                plain = Math.max(plain, t.search(t.point(id, 1), t.point(id, 2), false, 0));
                skip = Math.max(skip, t.search(t.point(id, 1), t.point(id, 2), true, 0));
            }
            Check.due("worst(false), seed " + seed, plain, t.worst(false));
            Check.due("worst(true), seed " + seed, skip, t.worst(true));
        }
        Promise.changesNothing("worst(true)", t -> t.worst(true));
    }

    private static void worstSkipOrPlain() {
        SkipQuadtree s = sample();
        Check.due("worst(true)", 4, s.worst(true));
        Check.due("worst(false)", 2, s.worst(false));
        s.remove(0);
        s.remove(3);
        Check.due("worst(false) without the deepest", 1, s.worst(false));
        Check.due("worst(true) without the deepest", 2, s.worst(true));
    }

    private static void leastAndGreatestWorst() {
        SkipQuadtree t = new SkipQuadtree();
        Check.due("worst(true) without points", 0, t.worst(true));
        Check.due("worst(false) without points", 0, t.worst(false));
        t.add(15, 9, 9);
        Check.due("worst(true) with one point of height 4", 4, t.worst(true));
        Check.due("worst(false) with one point of height 4", 0, t.worst(false));
        t.remove(15);
        Check.due("worst(true) without points again", 0, t.worst(true));
        Check.due("worst(true) of squares in one another", 9, chain().worst(true));
        Check.due("worst(false) of squares in one another", 5, chain().worst(false));
        SkipQuadtree lowest = new SkipQuadtree();
        lowest.add(0, 0, 0);
        lowest.add(2, 1, 1);
        Check.due("worst(true) of height 0 alone", 1, lowest.worst(true));
    }

    // ---- promise 14

    private static void wouldTouchAsMove() {
        SkipQuadtree t = sample();
        Check.due("wouldTouch(3, 40, 50), into a node", 2, t.wouldTouch(3, 40, 50));
        Check.due("wouldTouch(2, 63, 63), into a node", 1, t.wouldTouch(2, 63, 63));
        t.remove(6);
        Check.due("wouldTouch(3, 40, 50)", 3, t.wouldTouch(3, 40, 50));
        Check.due("wouldTouch(3, 12, 13), where it is", 0, t.wouldTouch(3, 12, 13));
        Check.due("wouldTouch(2, 63, 63)", 2, t.wouldTouch(2, 63, 63));
        for (int id = 0; id < 24; id++) {
            for (int place : new int[] {0, 17, 40, 63}) {
                SkipQuadtree crowd = Promise.crowd();
                int told = crowd.wouldTouch(id, place, 63 - place);
                Check.due("move(" + id + ", " + place + ", " + (63 - place) + ")", told,
                    crowd.move(id, place, 63 - place));
            }
        }
    }

    private static void wouldTouchChangesNothing() {
        Promise.changesNothing("wouldTouch(7, 0, 63)", t -> t.wouldTouch(7, 0, 63));
        Promise.changesNothing("wouldTouch(15, 5, 5)", t -> t.wouldTouch(15, 5, 5));
        Promise.changesNothing("wouldTouch(7, ..) where it is", t -> t.wouldTouch(7, t.point(7, 1), t.point(7, 2)));
    }

    private static void wouldTouchIds() {
        Promise.range(Promise::crowd, "wouldTouch of the id", 0, 23, Promise.NO_INDEX,
            (t, id) -> t.wouldTouch(id, 5, 6));
    }

    private static void wouldTouchXs() {
        Promise.range(Promise::busy, "wouldTouch with x", 0, 63, Promise.BAD_ARGUMENT, (t, x) -> t.wouldTouch(7, x, 6));
    }

    private static void wouldTouchYs() {
        Promise.range(Promise::busy, "wouldTouch with y", 0, 63, Promise.BAD_ARGUMENT, (t, y) -> t.wouldTouch(7, 6, y));
    }

    private static void leastAndGreatestTouch() {
        SkipQuadtree t = new SkipQuadtree();
        t.add(15, 1, 0);
        Check.due("wouldTouch of the only point", 0, t.wouldTouch(15, 63, 63));
        t.add(7, 0, 0);
        t.add(23, 60, 60);
        Check.due("wouldTouch(15, 61, 60)", 8, t.wouldTouch(15, 61, 60));
        Check.due("wouldTouch(15, 40, 0)", 4, t.wouldTouch(15, 40, 0));
    }

    private static void wouldTouchBeyondAll() {
        Promise.refused("wouldTouch(24, 64, 64)", Promise.NO_INDEX, t -> t.wouldTouch(24, 64, 64));
        Promise.refused("wouldTouch(-1, -1, -1)", Promise.NO_INDEX, t -> t.wouldTouch(-1, -1, -1));
    }

    private static void wouldTouchArguments() {
        Promise.refused("wouldTouch(7, 64, 64)", Promise.BAD_ARGUMENT, t -> t.wouldTouch(7, 64, 64));
        Promise.refused("wouldTouch(0, -1, 0) of no point", Promise.BAD_ARGUMENT, t -> t.wouldTouch(0, -1, 0));
    }

    private static void wouldTouchNothing() {
        for (int id : new int[] {0, 3, 16, 23}) {
            Promise.refused("wouldTouch(" + id + ", 0, 0)", Promise.BAD_STATE, t -> t.wouldTouch(id, 0, 0));
        }
        Promise.outcome(SkipQuadtree::new, "wouldTouch(7, 63, 63) of none", Promise.BAD_STATE,
            t -> t.wouldTouch(7, 63, 63));
    }

    private static void wouldTouchOrder() {
        Promise.idAndTwo("wouldTouch", 0, 63, 16, SkipQuadtree::wouldTouch);
    }
}

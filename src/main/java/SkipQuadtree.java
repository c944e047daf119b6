/** A skip quadtree over moving points; what each call does is told in DOC.md, promise by promise. */
public final class SkipQuadtree {
    /** Returned where there is no such value. */
    public static final int NONE = -1;

    private static final int IDS = 24;
    private static final int SIDE = 64;
    private static final int FASTEST = 9;
    private static final int LEVELS = 5;
    /** The sizes below the whole's are the powers of 2 with the exponents 1 to 5. */
    private static final int SMALLER_SIZES = 5;
    private static final int QUADRANTS = 4;
    private static final int CURSORS = 4;
    private static final int MOST_TICKS = 50;
    private static final int GREATEST_SEED = 999999;
    private static final int GREATEST_BYTE = 127;
    private static final int LONGEST_SCRIPT = 120;
    private static final int SAVES = 4;
    /** Children from this number on are positions, those below it are nodes. */
    private static final int POSITIONS = 1000;
    /** An id, or the number of a node, is packed below this factor. */
    private static final int PACK = 32;

    private static final int FINE = 0;
    private static final int NO_INDEX = 1;
    private static final int BAD_ARGUMENT = 2;
    private static final int BAD_STATE = 3;

    private final State now;
    private final UndoStack saves;
    private final Script script;
    private Forest forest;
    /** The forest of another moment, to be compared with; made once, so that no call makes an object. */
    private Forest spare;

    public SkipQuadtree() {
        now = new State();
        saves = new UndoStack();
        script = new Script();
        forest = new Forest();
        spare = new Forest();
    }

    // ---- points

    public int add(int id, int x, int y)
            throws IndexOutOfBoundsException, IllegalArgumentException, IllegalStateException {
        throwIf(refusalOfPlace(id, x, y, false));
        saves.push(now);
        return place(id, x, y);
    }

    public int move(int id, int x, int y)
            throws IndexOutOfBoundsException, IllegalArgumentException, IllegalStateException {
        throwIf(refusalOfPlace(id, x, y, true));
        saves.push(now);
        return place(id, x, y);
    }

    public int remove(int id) throws IndexOutOfBoundsException, IllegalStateException {
        throwIf(refusalOfDrop(id));
        saves.push(now);
        return takeOut(id);
    }

    public int setVelocity(int id, int u, int v)
            throws IndexOutOfBoundsException, IllegalArgumentException, IllegalStateException {
        throwIf(refusalOfSpeed(id, u, v));
        saves.push(now);
        int before = 10 * Math.abs(now.u[id]) + Math.abs(now.v[id]);
        setSpeed(id, u, v);
        return before;
    }

    public int tick(int ticks) throws IllegalArgumentException {
        throwIf(refusalOfTicks(ticks));
        saves.push(now);
        return letPass(ticks);
    }

    public int scatter(int first, int many, int area, int seed)
            throws IndexOutOfBoundsException, IllegalArgumentException {
        throwIf(refusalOfScatter(first, many, area, seed));
        saves.push(now);
        long s = seed;
        for (int id = first; id < first + many; id++) {
            s = nextRandom(s);
            int x = placeIn(s, area);
            s = nextRandom(s);
            now.put(id, x, placeIn(s, area));
        }
        settle();
        return now.count();
    }

    public int point(int id, int what) throws IndexOutOfBoundsException, IllegalArgumentException {
        throwIf(refusalOfValue(id, IDS, what, 5));
        switch (what) {
            case 0: return now.here[id] ? 1 : 0;
            case 1: return now.x[id];
            case 2: return now.y[id];
            case 3: return now.u[id];
            case 4: return now.v[id];
            default: return heightOf(id);
        }
    }

    // ---- squares

    public int level(int level, int what) throws IndexOutOfBoundsException, IllegalArgumentException {
        throwIf(refusalOfValue(level, LEVELS, what, 4));
        Level asked = forest.levels[level];
        switch (what) {
            case 0: return asked.many;
            case 1: return asked.nodes;
            case 2: return asked.greatestDepth();
            case 3: return asked.positionChildren();
            default: return asked.differentPositions();
        }
    }

    public int node(int level, int index, int what) throws IndexOutOfBoundsException, IllegalArgumentException {
        throwIf(refusalOfNode(level, index, what, 5));
        Level asked = forest.levels[level];
        int square = asked.squares[index];
        switch (what) {
            case 0: return Square.xOf(Square.corner(square));
            case 1: return Square.yOf(Square.corner(square));
            case 2: return Square.size(square);
            case 3: return asked.depthOf(index);
            case 4: return asked.pointsIn(square);
            default: return asked.quadrantsIn(square);
        }
    }

    public int child(int level, int index, int quadrant) throws IndexOutOfBoundsException, IllegalArgumentException {
        throwIf(refusalOfNode(level, index, quadrant, QUADRANTS - 1));
        return forest.levels[level].childOf(index, quadrant);
    }

    public int search(int x, int y, boolean skip, int what) throws IllegalArgumentException {
        throwIf(isPosition(x, y) && inside(what, 0, 2) ? FINE : BAD_ARGUMENT);
        int found = forest.find(x, y, skip);
        switch (what) {
            case 0: return found / PACK;
            case 1: return found % PACK;
            default: return Square.size(forest.levels[0].squares[found % PACK]);
        }
    }

    public int worst(boolean skip) {
        int greatest = 0;
        for (int id = 0; id < IDS; id++) {
            if (now.here[id]) {
                greatest = Math.max(greatest, forest.find(now.x[id], now.y[id], skip) / PACK);
            }
        }
        return greatest;
    }

    public int wouldTouch(int id, int x, int y)
            throws IndexOutOfBoundsException, IllegalArgumentException, IllegalStateException {
        throwIf(refusalOfPlace(id, x, y, true));
        int oldX = now.x[id];
        int oldY = now.y[id];
        now.put(id, x, y);
        spare.plant(now);
        now.put(id, oldX, oldY);
        return forest.differences(spare);
    }

    // ---- distances

    public int open(int cursor, int x, int y) throws IndexOutOfBoundsException, IllegalArgumentException {
        throwIf(refusalOfOpen(cursor, x, y));
        saves.push(now);
        now.centerX[cursor] = x;
        now.centerY[cursor] = y;
        now.lastPair[cursor] = NONE;
        return now.count();
    }

    public int next(int cursor) throws IndexOutOfBoundsException {
        throwIf(inside(cursor, 0, CURSORS - 1) ? FINE : NO_INDEX);
        saves.push(now);
        int pair = now.pairAfter(now.lastPair[cursor], now.centerX[cursor], now.centerY[cursor]);
        if (pair == NONE) {
            return NONE;
        }
        now.lastPair[cursor] = pair;
        return pair % PACK;
    }

    public int cursor(int cursor, int what) throws IndexOutOfBoundsException, IllegalArgumentException {
        throwIf(refusalOfValue(cursor, CURSORS, what, 5));
        int x = now.centerX[cursor];
        int y = now.centerY[cursor];
        int last = now.lastPair[cursor];
        switch (what) {
            case 0: return x;
            case 1: return y;
            case 2: return last == NONE ? NONE : last / PACK;
            case 3: return last == NONE ? NONE : last % PACK;
            case 4: return now.pairsAfter(last, x, y);
            default: return last == NONE ? 0 : forest.levels[0].nodesWithin(last / PACK, x, y);
        }
    }

    public int nearest(int x, int y, int rank) throws IllegalArgumentException {
        throwIf(isPosition(x, y) && rank >= 0 ? FINE : BAD_ARGUMENT);
        if (rank >= now.count()) {
            return NONE;
        }
        int pair = now.pairAfter(NONE, x, y);
        for (int passed = 0; passed < rank; passed++) {
            pair = now.pairAfter(pair, x, y);
        }
        return pair % PACK;
    }

    public int within(int x0, int y0, int x1, int y1) throws IllegalArgumentException {
        throwIf(isPosition(x0, y0) && isPosition(x1, y1) ? FINE : BAD_ARGUMENT);
        int count = 0;
        for (int id = 0; id < IDS; id++) {
            if (now.here[id] && inside(now.x[id], x0, x1) && inside(now.y[id], y0, y1)) {
                count++;
            }
        }
        return count;
    }

    public int closest(int what) throws IllegalArgumentException {
        throwIf(inside(what, 0, 2) ? FINE : BAD_ARGUMENT);
        int couple = now.closestCouple();
        if (couple == NONE) {
            return NONE;
        }
        switch (what) {
            case 0: return couple / (PACK * PACK);
            case 1: return couple / PACK % PACK;
            default: return couple % PACK;
        }
    }

    // ---- scripts, undo and checksum

    public int type(int value) throws IllegalArgumentException, IllegalStateException {
        throwIf(refusalOfByte(value));
        script.append(value);
        return script.length;
    }

    public int clearScript() {
        int before = script.length;
        script.length = 0;
        return before;
    }

    public int run() {
        int fault = script.findFault();
        if (fault != NONE) {
            return -10 - fault;
        }
        saves.push(now);
        script.rewind();
        int done = 0;
        while (done < LONGEST_SCRIPT && script.readCommand()
                && refusalOfCommand(script.word, script.numbers) == FINE) {
            carryOut(script.word, script.numbers);
            done++;
        }
        return done;
    }

    public int time() {
        return now.time;
    }

    public int undo() throws IllegalStateException {
        throwIf(saves.count > 0 ? FINE : BAD_STATE);
        saves.pop(now);
        forest.plant(now);
        return saves.count;
    }

    public long digest() {
        long h = 19606;
        h = 31 * h + saves.count;
        h = 31 * h + script.length;
        h = 31 * h + time();
        h = mixPoints(h);
        for (int level = 0; level < LEVELS; level++) {
            h = mixLevel(h, level);
        }
        h = 31 * h + worst(true);
        h = 31 * h + worst(false);
        h = mixCursors(h);
        for (int what = 0; what <= 2; what++) {
            h = 31 * h + closest(what);
        }
        return h;
    }

    private long mixPoints(long start) {
        long h = start;
        for (int id = 0; id < IDS; id++) {
            for (int what = 0; what <= 5; what++) {
                h = 31 * h + point(id, what);
            }
        }
        return h;
    }

    private long mixLevel(long start, int level) {
        long h = start;
        for (int what = 0; what <= 4; what++) {
            h = 31 * h + level(level, what);
        }
        for (int index = 0; index < forest.levels[level].nodes; index++) {
            for (int what = 0; what <= 5; what++) {
                h = 31 * h + node(level, index, what);
            }
            for (int quadrant = 0; quadrant < QUADRANTS; quadrant++) {
                h = 31 * h + child(level, index, quadrant);
            }
        }
        return h;
    }

    private long mixCursors(long start) {
        long h = start;
        for (int cursor = 0; cursor < CURSORS; cursor++) {
            for (int what = 0; what <= 5; what++) {
                h = 31 * h + cursor(cursor, what);
            }
        }
        return h;
    }

    // ---- what is refused: the same answers serve calls, which throw, and commands, which only end their run

    private int refusalOfPlace(int id, int x, int y, boolean existing) {
        if (!isId(id)) {
            return NO_INDEX;
        }
        if (!isPosition(x, y)) {
            return BAD_ARGUMENT;
        }
        return now.here[id] == existing ? FINE : BAD_STATE;
    }

    private int refusalOfDrop(int id) {
        if (!isId(id)) {
            return NO_INDEX;
        }
        return now.here[id] ? FINE : BAD_STATE;
    }

    private int refusalOfSpeed(int id, int u, int v) {
        if (!isId(id)) {
            return NO_INDEX;
        }
        if (!inside(u, -FASTEST, FASTEST) || !inside(v, -FASTEST, FASTEST)) {
            return BAD_ARGUMENT;
        }
        return now.here[id] ? FINE : BAD_STATE;
    }

    private static int refusalOfTicks(int ticks) {
        return inside(ticks, 1, MOST_TICKS) ? FINE : BAD_ARGUMENT;
    }

    private static int refusalOfScatter(int first, int many, int area, int seed) {
        if (!isId(first)) {
            return NO_INDEX;
        }
        boolean fits = inside(many, 1, IDS - first) && inside(area, 1, SIDE) && inside(seed, 0, GREATEST_SEED);
        return fits ? FINE : BAD_ARGUMENT;
    }

    private static int refusalOfValue(int index, int indices, int what, int greatest) {
        if (!inside(index, 0, indices - 1)) {
            return NO_INDEX;
        }
        return inside(what, 0, greatest) ? FINE : BAD_ARGUMENT;
    }

    private int refusalOfNode(int level, int index, int what, int greatest) {
        if (!inside(level, 0, LEVELS - 1)) {
            return NO_INDEX;
        }
        return refusalOfValue(index, forest.levels[level].nodes, what, greatest);
    }

    private static int refusalOfOpen(int cursor, int x, int y) {
        if (!inside(cursor, 0, CURSORS - 1)) {
            return NO_INDEX;
        }
        return isPosition(x, y) ? FINE : BAD_ARGUMENT;
    }

    private int refusalOfByte(int value) {
        if (!inside(value, 0, GREATEST_BYTE)) {
            return BAD_ARGUMENT;
        }
        return script.length < LONGEST_SCRIPT ? FINE : BAD_STATE;
    }

    private static void throwIf(int refusal) {
        if (refusal == NO_INDEX) {
            throw new IndexOutOfBoundsException("there is no such point, level, node or cursor");
        }
        if (refusal == BAD_ARGUMENT) {
            throw new IllegalArgumentException("an argument is out of range");
        }
        if (refusal == BAD_STATE) {
            throw new IllegalStateException("this call is not possible now");
        }
    }

    private static boolean inside(int value, int least, int greatest) {
        return value >= least && value <= greatest;
    }

    private static boolean isId(int id) {
        return inside(id, 0, IDS - 1);
    }

    private static boolean isPosition(int x, int y) {
        return inside(x, 0, SIDE - 1) && inside(y, 0, SIDE - 1);
    }

    // ---- changes that were not refused; they save nothing, since a run saves once for all its commands

    private int place(int id, int x, int y) {
        now.put(id, x, y);
        return settle();
    }

    private int takeOut(int id) {
        now.clear(id);
        return settle();
    }

    private void setSpeed(int id, int u, int v) {
        now.u[id] = u;
        now.v[id] = v;
    }

    private int letPass(int ticks) {
        int touched = 0;
        for (int passed = 0; passed < ticks; passed++) {
            now.step();
            touched += settle();
        }
        return touched;
    }

    /** Lets the forest follow the points; answers how many squares that touches. */
    private int settle() {
        spare.plant(now);
        int touched = forest.differences(spare);
        Forest old = forest;
        forest = spare;
        spare = old;
        return touched;
    }

    private int refusalOfCommand(int word, int[] numbers) {
        switch (word) {
            case Script.ADD: return refusalOfPlace(numbers[0], numbers[1], numbers[2], false);
            case Script.MOVE: return refusalOfPlace(numbers[0], numbers[1], numbers[2], true);
            case Script.DROP: return refusalOfDrop(numbers[0]);
            case Script.SPEED: return refusalOfSpeed(numbers[0], numbers[1], numbers[2]);
            default: return refusalOfTicks(numbers[0]);
        }
    }

    private void carryOut(int word, int[] numbers) {
        switch (word) {
            case Script.ADD:
            case Script.MOVE:
                place(numbers[0], numbers[1], numbers[2]);
                break;
            case Script.DROP:
                takeOut(numbers[0]);
                break;
            case Script.SPEED:
                setSpeed(numbers[0], numbers[1], numbers[2]);
                break;
            default:
                letPass(numbers[0]);
        }
    }

    private static long nextRandom(long s) {
        return (1103515245L * s + 12345L) % 2147483648L;
    }

    private static int placeIn(long s, int area) {
        return area > 0 ? (int) (s / 65536L % area) : 0;
    }

    private static int heightOf(int id) {
        int height = 0;
        for (int rest = id + 1; height < LEVELS - 1 && rest % 2 == 0; rest /= 2) {
            height++;
        }
        return height;
    }

    private static int distance(int x0, int y0, int x1, int y1) {
        return (x0 - x1) * (x0 - x1) + (y0 - y1) * (y0 - y1);
    }

    /** All that undo brings back: the points, the cursors and the number of ticks. */
    private static final class State {
        final boolean[] here = new boolean[IDS];
        final int[] x = new int[IDS];
        final int[] y = new int[IDS];
        final int[] u = new int[IDS];
        final int[] v = new int[IDS];
        final int[] centerX = new int[CURSORS];
        final int[] centerY = new int[CURSORS];
        /** The last pair of each cursor as distance * PACK + id, which keeps the order of the pairs, or NONE. */
        final int[] lastPair = new int[CURSORS];
        int time;

        State() {
            for (int cursor = 0; cursor < CURSORS; cursor++) {
                lastPair[cursor] = NONE;
            }
        }

        void copy(State other) {
            for (int id = 0; id < IDS; id++) {
                here[id] = other.here[id];
                x[id] = other.x[id];
                y[id] = other.y[id];
                u[id] = other.u[id];
                v[id] = other.v[id];
            }
            for (int cursor = 0; cursor < CURSORS; cursor++) {
                centerX[cursor] = other.centerX[cursor];
                centerY[cursor] = other.centerY[cursor];
                lastPair[cursor] = other.lastPair[cursor];
            }
            time = other.time;
        }

        /** The velocity stays: a point that did not exist has (0, 0), as clear leaves it. */
        void put(int id, int newX, int newY) {
            here[id] = true;
            x[id] = newX;
            y[id] = newY;
        }

        void clear(int id) {
            here[id] = false;
            x[id] = 0;
            y[id] = 0;
            u[id] = 0;
            v[id] = 0;
        }

        void step() {
            for (int id = 0; id < IDS; id++) {
                int nextX = x[id] + u[id];
                int nextY = y[id] + v[id];
                x[id] = reflected(nextX);
                y[id] = reflected(nextY);
                u[id] = x[id] == nextX ? u[id] : -u[id];
                v[id] = y[id] == nextY ? v[id] : -v[id];
            }
            time++;
        }

        private static int reflected(int place) {
            if (place < 0) {
                return -place;
            }
            return place < SIDE ? place : 2 * (SIDE - 1) - place;
        }

        int count() {
            int count = 0;
            for (int id = 0; id < IDS; id++) {
                count += here[id] ? 1 : 0;
            }
            return count;
        }

        private int pairOf(int id, int toX, int toY) {
            return distance(x[id], y[id], toX, toY) * PACK + id;
        }

        /** The least pair that is greater than the one told, or NONE; NONE itself is less than every pair. */
        int pairAfter(int last, int toX, int toY) {
            int least = NONE;
            for (int id = 0; id < IDS; id++) {
                int pair = pairOf(id, toX, toY);
                if (here[id] && pair > last && (least == NONE || pair < least)) {
                    least = pair;
                }
            }
            return least;
        }

        int pairsAfter(int last, int toX, int toY) {
            int count = 0;
            for (int id = 0; id < IDS; id++) {
                if (here[id] && pairOf(id, toX, toY) > last) {
                    count++;
                }
            }
            return count;
        }

        /** The closest two points as (distance * PACK + lower id) * PACK + higher id, or NONE. */
        int closestCouple() {
            int least = NONE;
            for (int lower = 0; lower < IDS; lower++) {
                for (int higher = lower + 1; here[lower] && higher < IDS; higher++) {
                    int couple = pairOf(lower, x[higher], y[higher]) * PACK + higher;
                    if (here[higher] && (least == NONE || couple < least)) {
                        least = couple;
                    }
                }
            }
            return least;
        }
    }

    /** The latest saved states, in a ring of states that are made once. */
    private static final class UndoStack {
        private final State[] ring = new State[SAVES];
        private int top;
        int count;

        UndoStack() {
            for (int k = 0; k < SAVES; k++) {
                ring[k] = new State();
            }
        }

        void push(State state) {
            ring[top].copy(state);
            top = (top + 1) % SAVES;
            count = Math.min(count + 1, SAVES);
        }

        void pop(State state) {
            top = (top + SAVES - 1) % SAVES;
            count--;
            state.copy(ring[top]);
        }
    }

    /**
     * Positions and squares as numbers. The code of a position mixes the bits of x and y, so that the codes
     * within a square follow one another, quadrant by quadrant. A square is 8 times its least code plus 6 minus
     * the exponent of its size, so that ascending squares stand in the order of the nodes.
     */
    private static final class Square {
        private Square() {
        }

        /** Spreads the bits of both at once, x in the lower half of the number and y in the upper one. */
        static int code(int x, int y) {
            int bits = y << 16 | x;
            bits = (bits | bits << 4) & 0x0F0F0F0F;
            bits = (bits | bits << 2) & 0x33333333;
            bits = (bits | bits << 1) & 0x55555555;
            return (bits | bits >> 15) & 0xFFFF;
        }

        static int xOf(int code) {
            return gather(code);
        }

        static int yOf(int code) {
            return gather(code >> 1);
        }

        private static int gather(int code) {
            int bits = code & 0x5555;
            bits = (bits | bits >> 1) & 0x3333;
            bits = (bits | bits >> 2) & 0x0F0F;
            return (bits | bits >> 4) & 0x00FF;
        }

        static int around(int code, int exponent) {
            int corner = (code >> 2 * exponent) << 2 * exponent;
            return corner * 8 + 6 - exponent;
        }

        static int corner(int square) {
            return square / 8;
        }

        private static int exponent(int square) {
            return 6 - square % 8;
        }

        static int size(int square) {
            return 1 << exponent(square);
        }

        static boolean holds(int square, int code) {
            return ((code ^ corner(square)) >> 2 * exponent(square)) == 0;
        }

        /** The quadrant with a code that the square holds. */
        static int quadrant(int square, int code) {
            return (code >> (2 * exponent(square) - 2)) & 3;
        }

        static int distanceTo(int square, int x, int y) {
            int left = xOf(corner(square));
            int low = yOf(corner(square));
            int last = size(square) - 1;
            int nearX = Math.max(left, Math.min(x, left + last));
            int nearY = Math.max(low, Math.min(y, low + last));
            return distance(x, y, nearX, nearY);
        }
    }

    /** A level: the codes of its points and the squares that are its nodes, both ascending. */
    private static final class Level {
        final int[] codes = new int[IDS];
        int many;
        /** The whole is 0 and stays first. Every other node branches, so they are fewer than the points. */
        final int[] squares = new int[IDS];
        int nodes = 1;

        void clear() {
            many = 0;
            nodes = 1;
        }

        /** The codes must come in ascending order. */
        void take(int code) {
            if (many < IDS) {
                codes[many] = code;
                many++;
            }
        }

        private void keep(int square) {
            if (nodes < IDS) {
                squares[nodes] = square;
                nodes++;
            }
        }

        /** By the first point within, then by falling size: that is the order of the nodes. */
        void findNodes() {
            for (int k = 0; k < many; k++) {
                for (int exponent = SMALLER_SIZES; exponent > 0; exponent--) {
                    if (beginsSquare(k, exponent) && branches(k, exponent)) {
                        keep(Square.around(codes[k], exponent));
                    }
                }
            }
        }

        private boolean beginsSquare(int k, int exponent) {
            return k == 0 || codes[k - 1] >> 2 * exponent != codes[k] >> 2 * exponent;
        }

        /** Whether a later point lies in the same square as this one, but in another quadrant. */
        private boolean branches(int k, int exponent) {
            int around = codes[k] >> 2 * exponent;
            int quadrant = codes[k] >> (2 * exponent - 2);
            for (int other = k + 1; other < many && codes[other] >> 2 * exponent == around; other++) {
                if (codes[other] >> (2 * exponent - 2) != quadrant) {
                    return true;
                }
            }
            return false;
        }

        int differences(Level other) {
            int common = 0;
            int k = 0;
            for (int index = 0; index < nodes; index++) {
                while (k < other.nodes && other.squares[k] < squares[index]) {
                    k++;
                }
                if (k < other.nodes && other.squares[k] == squares[index]) {
                    common++;
                }
            }
            return nodes + other.nodes - 2 * common;
        }

        /** The number of a square that is a node, as each node of the level above is. */
        int indexOf(int square) {
            int index = 0;
            while (index < nodes - 1 && squares[index] < square) {
                index++;
            }
            return index;
        }

        /** Nodes around a node stand before it, and one before it that holds its corner is around it. */
        int depthOf(int index) {
            int depth = 0;
            for (int before = 0; before < index; before++) {
                if (Square.holds(squares[before], Square.corner(squares[index]))) {
                    depth++;
                }
            }
            return depth;
        }

        int greatestDepth() {
            int greatest = 0;
            for (int index = 0; index < nodes; index++) {
                greatest = Math.max(greatest, depthOf(index));
            }
            return greatest;
        }

        int pointsIn(int square) {
            int count = 0;
            for (int k = 0; k < many; k++) {
                if (Square.holds(square, codes[k])) {
                    count++;
                }
            }
            return count;
        }

        int quadrantsIn(int square) {
            int seen = 0;
            for (int k = 0; k < many; k++) {
                if (Square.holds(square, codes[k])) {
                    seen |= 1 << Square.quadrant(square, codes[k]);
                }
            }
            return Integer.bitCount(seen);
        }

        int childOf(int index, int quadrant) {
            int square = squares[index];
            int first = NONE;
            int last = NONE;
            for (int k = 0; k < many; k++) {
                if (Square.holds(square, codes[k]) && Square.quadrant(square, codes[k]) == quadrant) {
                    first = first == NONE ? codes[k] : first;
                    last = codes[k];
                }
            }
            if (first == last) {
                return first == NONE ? NONE : POSITIONS + SIDE * Square.yOf(first) + Square.xOf(first);
            }
            return greatestNodeAround(first, index);
        }

        /** The nodes that hold the code stand in the order of their sizes, so the next one is the greatest. */
        private int greatestNodeAround(int code, int above) {
            for (int index = above + 1; index < nodes; index++) {
                if (Square.holds(squares[index], code)) {
                    return index;
                }
            }
            return NONE;
        }

        int positionChildren() {
            int count = 0;
            for (int index = 0; index < nodes; index++) {
                for (int quadrant = 0; quadrant < QUADRANTS; quadrant++) {
                    if (childOf(index, quadrant) >= POSITIONS) {
                        count++;
                    }
                }
            }
            return count;
        }

        int differentPositions() {
            int count = 0;
            for (int k = 0; k < many; k++) {
                if (k == 0 || codes[k] != codes[k - 1]) {
                    count++;
                }
            }
            return count;
        }

        /** The child of a node towards a code, if it is a node that holds the code, or NONE. */
        int stepTowards(int index, int code) {
            int below = childOf(index, Square.quadrant(squares[index], code));
            if (below == NONE || below >= POSITIONS) {
                return NONE;
            }
            return Square.holds(squares[below], code) ? below : NONE;
        }

        int nodesWithin(int reach, int x, int y) {
            int count = 0;
            for (int index = 0; index < nodes; index++) {
                if (Square.distanceTo(squares[index], x, y) <= reach) {
                    count++;
                }
            }
            return count;
        }
    }

    /** The levels, grown anew from the points after each change. */
    private static final class Forest {
        final Level[] levels = new Level[LEVELS];
        /** For each point code * PACK + id, ascending. */
        private final int[] sorted = new int[IDS];

        Forest() {
            for (int level = 0; level < LEVELS; level++) {
                levels[level] = new Level();
            }
        }

        void plant(State state) {
            int count = sortPoints(state);
            for (int level = 0; level < LEVELS; level++) {
                levels[level].clear();
            }
            for (int k = 0; k < count; k++) {
                int height = heightOf(sorted[k] % PACK);
                for (int level = 0; level <= height; level++) {
                    levels[level].take(sorted[k] / PACK);
                }
            }
            for (int level = 0; level < LEVELS; level++) {
                levels[level].findNodes();
            }
        }

        private int sortPoints(State state) {
            int count = 0;
            for (int id = 0; id < IDS; id++) {
                if (state.here[id]) {
                    insert(Square.code(state.x[id], state.y[id]) * PACK + id, count);
                    count++;
                }
            }
            return count;
        }

        private void insert(int entry, int count) {
            int k = count;
            while (k > 0 && sorted[k - 1] > entry) {
                sorted[k] = sorted[k - 1];
                k--;
            }
            sorted[k] = entry;
        }

        int differences(Forest other) {
            int count = 0;
            for (int level = 0; level < LEVELS; level++) {
                count += levels[level].differences(other.levels[level]);
            }
            return count;
        }

        private int greatestLevel() {
            int greatest = 0;
            for (int level = 0; level < LEVELS; level++) {
                greatest = levels[level].many > 0 ? level : greatest;
            }
            return greatest;
        }

        /** A search: its number of steps * PACK + the number of the node of level 0 that it finds. */
        int find(int x, int y, boolean skip) {
            int code = Square.code(x, y);
            int steps = 0;
            int index = 0;
            for (int level = skip ? greatestLevel() : 0; level >= 0; level--) {
                Level tree = levels[level];
                int below = tree.stepTowards(index, code);
                for (int depth = 0; depth < SMALLER_SIZES && below != NONE; depth++) {
                    index = below;
                    steps++;
                    below = tree.stepTowards(index, code);
                }
                if (level > 0) {
                    index = levels[level - 1].indexOf(tree.squares[index]);
                    steps++;
                }
            }
            return steps * PACK + index;
        }
    }

    /** The bytes of the script, and a reader of its commands. */
    private static final class Script {
        static final int ADD = 0;
        static final int MOVE = 1;
        static final int DROP = 2;
        static final int SPEED = 3;
        static final int TICK = 4;
        private static final int WORDS = 5;
        private static final int SPACE = 32;

        private final int[] bytes = new int[LONGEST_SCRIPT];
        int length;
        /** Of the command that was read last: its word and its numbers. */
        int word;
        final int[] numbers = new int[3];
        private int position;
        private int fault;

        void append(int value) {
            if (length < LONGEST_SCRIPT) {
                bytes[length] = value;
                length++;
            }
        }

        void rewind() {
            position = 0;
            fault = NONE;
        }

        /** The fault of the script, or NONE. */
        int findFault() {
            rewind();
            int read = 0;
            while (read < LONGEST_SCRIPT && readCommand()) {
                read++;
            }
            return fault;
        }

        /** Whether there was another command; if not, either the script ends here or it has a fault. */
        boolean readCommand() {
            passSpaces();
            if (position == length || !readWord()) {
                return false;
            }
            int many = numbersOf(word);
            for (int k = 0; k < many; k++) {
                if (!readNumber(k)) {
                    return false;
                }
            }
            passSpaces();
            return passByte(';');
        }

        /** The byte that stands next, or NONE at the end. */
        private int peek() {
            return position < length ? bytes[position] : NONE;
        }

        private boolean failAt(int place) {
            fault = place;
            return false;
        }

        /** An end too soon is at fault with the length of the script, which is the position then. */
        private boolean passByte(int value) {
            if (peek() != value) {
                return failAt(position);
            }
            position++;
            return true;
        }

        private void passSpaces() {
            while (position < length && bytes[position] == SPACE) {
                position++;
            }
        }

        private boolean readWord() {
            int start = position;
            while (position < length && inside(bytes[position], 'a', 'z')) {
                position++;
            }
            for (int candidate = 0; candidate < WORDS; candidate++) {
                if (spells(textOf(candidate), start)) {
                    word = candidate;
                    return true;
                }
            }
            return failAt(start);
        }

        private boolean spells(String text, int start) {
            if (position - start != text.length()) {
                return false;
            }
            for (int k = 0; k < text.length(); k++) {
                if (bytes[start + k] != text.charAt(k)) {
                    return false;
                }
            }
            return true;
        }

        private boolean readNumber(int k) {
            if (!passByte(SPACE)) {
                return false;
            }
            passSpaces();
            boolean negative = peek() == '-';
            if (negative) {
                position++;
            }
            if (!isDigit(peek())) {
                return failAt(position);
            }
            int value = peek() - '0';
            position++;
            if (isDigit(peek())) {
                value = 10 * value + peek() - '0';
                position++;
            }
            numbers[k] = negative ? -value : value;
            return true;
        }

        private static boolean isDigit(int value) {
            return inside(value, '0', '9');
        }

        private static String textOf(int word) {
            switch (word) {
                case ADD: return "add";
                case MOVE: return "move";
                case DROP: return "drop";
                case SPEED: return "speed";
                default: return "tick";
            }
        }

        private static int numbersOf(int word) {
            return word == DROP || word == TICK ? 1 : 3;
        }
    }
}

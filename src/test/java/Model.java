import java.util.ArrayList;
import java.util.HashSet;
import java.util.List;
import java.util.Set;
import java.util.regex.Matcher;
import java.util.regex.Pattern;

/**
 * The document once more, slowly and by its words alone: no node, child or count is kept, each is looked for among
 * all squares when it is asked for. ModelTest compares the class with it.
 */
final class Model {
    /** A square by its least position and its size. */
    record Square(int a, int b, int size) {
        boolean holds(int x, int y) {
            return a <= x && x < a + size && b <= y && y < b + size;
        }

        boolean holds(Square other) {
            return other.size <= size && holds(other.a, other.b);
        }

        Square quadrant(int number) {
            int half = size / 2;
            return new Square(a + (number % 2) * half, b + (number / 2) * half, half);
        }

        int quadrantOf(int x, int y) {
            for (int number = 0; number < 4; number++) {
                if (quadrant(number).holds(x, y)) {
                    return number;
                }
            }
            return -1;
        }

        int distance(int x, int y) {
            int least = Integer.MAX_VALUE;
            for (int p = a; p < a + size; p++) {
                for (int q = b; q < b + size; q++) {
                    least = Math.min(least, Model.distance(p, q, x, y));
                }
            }
            return least;
        }
    }

    private static final class Point {
        int x;
        int y;
        int u;
        int v;
    }

    private static final class Cursor {
        int x;
        int y;
        int[] last;
    }

    private static final class State {
        Point[] points = new Point[24];
        Cursor[] cursors = new Cursor[4];
        int time;

        State() {
            for (int k = 0; k < 4; k++) {
                cursors[k] = new Cursor();
            }
        }

        State copy() {
            State copy = new State();
            for (int id = 0; id < 24; id++) {
                if (points[id] != null) {
                    copy.points[id] = new Point();
                    copy.points[id].x = points[id].x;
                    copy.points[id].y = points[id].y;
                    copy.points[id].u = points[id].u;
                    copy.points[id].v = points[id].v;
                }
            }
            for (int k = 0; k < 4; k++) {
                copy.cursors[k].x = cursors[k].x;
                copy.cursors[k].y = cursors[k].y;
                copy.cursors[k].last = cursors[k].last == null ? null : cursors[k].last.clone();
            }
            copy.time = time;
            return copy;
        }
    }

    private static final Square WHOLE = new Square(0, 0, 64);

    private State state = new State();
    private final List<State> saved = new ArrayList<>();
    private final StringBuilder script = new StringBuilder();

    static int distance(int x0, int y0, int x1, int y1) {
        return (x0 - x1) * (x0 - x1) + (y0 - y1) * (y0 - y1);
    }

    private static void index(boolean fine) {
        if (!fine) {
            throw new IndexOutOfBoundsException();
        }
    }

    private static void argument(boolean fine) {
        if (!fine) {
            throw new IllegalArgumentException();
        }
    }

    private static void state(boolean fine) {
        if (!fine) {
            throw new IllegalStateException();
        }
    }

    private static boolean place(int x, int y) {
        return 0 <= x && x <= 63 && 0 <= y && y <= 63;
    }

    private void save(State before) {
        saved.add(before);
        if (saved.size() > 4) {
            saved.remove(0);
        }
    }

    // ---- sets, nodes and children

    static int height(int id) {
        int height = 0;
        int rest = id + 1;
        while (rest % 2 == 0) {
            rest /= 2;
            height++;
        }
        return height;
    }

    private List<Point> set(int level) {
        List<Point> set = new ArrayList<>();
        for (int id = 0; id < 24; id++) {
            if (state.points[id] != null && height(id) >= level) {
                set.add(state.points[id]);
            }
        }
        return set;
    }

    private static Set<Integer> positions(List<Point> set, Square square) {
        Set<Integer> positions = new HashSet<>();
        for (Point point : set) {
            if (square.holds(point.x, point.y)) {
                positions.add(64 * point.y + point.x);
            }
        }
        return positions;
    }

    private static int quadrants(List<Point> set, Square square) {
        int count = 0;
        for (int number = 0; number < 4; number++) {
            if (!positions(set, square.quadrant(number)).isEmpty()) {
                count++;
            }
        }
        return count;
    }

    private List<Square> nodes(int level) {
        List<Square> nodes = new ArrayList<>();
        collect(set(level), WHOLE, nodes);
        return nodes;
    }

    private static void collect(List<Point> set, Square square, List<Square> nodes) {
        if (square.size() < 2 || square.size() < 64 && positions(set, square).isEmpty()) {
            return;
        }
        if (square.size() == 64 || quadrants(set, square) >= 2) {
            nodes.add(square);
        }
        for (int number = 0; number < 4; number++) {
            collect(set, square.quadrant(number), nodes);
        }
    }

    private int depth(List<Square> nodes, Square square) {
        int depth = 0;
        for (Square other : nodes) {
            if (!other.equals(square) && other.holds(square)) {
                depth++;
            }
        }
        return depth;
    }

    private int childOf(int level, List<Square> nodes, Square node, int quadrant) {
        Square part = node.quadrant(quadrant);
        Set<Integer> positions = positions(set(level), part);
        if (positions.isEmpty()) {
            return -1;
        }
        if (positions.size() == 1) {
            return 1000 + positions.iterator().next();
        }
        int greatest = -1;
        for (int k = 0; k < nodes.size(); k++) {
            boolean within = part.holds(nodes.get(k));
            if (within && (greatest == -1 || nodes.get(k).size() > nodes.get(greatest).size())) {
                greatest = k;
            }
        }
        return greatest;
    }

    private int touched(List<List<Square>> before) {
        int count = 0;
        for (int level = 0; level < 5; level++) {
            Set<Square> old = new HashSet<>(before.get(level));
            Set<Square> fresh = new HashSet<>(nodes(level));
            for (Square square : old) {
                count += fresh.contains(square) ? 0 : 1;
            }
            for (Square square : fresh) {
                count += old.contains(square) ? 0 : 1;
            }
        }
        return count;
    }

    private List<List<Square>> allNodes() {
        List<List<Square>> all = new ArrayList<>();
        for (int level = 0; level < 5; level++) {
            all.add(nodes(level));
        }
        return all;
    }

    // ---- points

    int add(int id, int x, int y) {
        index(0 <= id && id < 24);
        argument(place(x, y));
        state(state.points[id] == null);
        save(state.copy());
        return doAdd(id, x, y);
    }

    private int doAdd(int id, int x, int y) {
        List<List<Square>> before = allNodes();
        state.points[id] = new Point();
        state.points[id].x = x;
        state.points[id].y = y;
        return touched(before);
    }

    int move(int id, int x, int y) {
        index(0 <= id && id < 24);
        argument(place(x, y));
        state(state.points[id] != null);
        save(state.copy());
        return doMove(id, x, y);
    }

    private int doMove(int id, int x, int y) {
        List<List<Square>> before = allNodes();
        state.points[id].x = x;
        state.points[id].y = y;
        return touched(before);
    }

    int remove(int id) {
        index(0 <= id && id < 24);
        state(state.points[id] != null);
        save(state.copy());
        List<List<Square>> before = allNodes();
        state.points[id] = null;
        return touched(before);
    }

    int setVelocity(int id, int u, int v) {
        index(0 <= id && id < 24);
        argument(-9 <= u && u <= 9 && -9 <= v && v <= 9);
        state(state.points[id] != null);
        save(state.copy());
        Point point = state.points[id];
        int answer = 10 * Math.abs(point.u) + Math.abs(point.v);
        point.u = u;
        point.v = v;
        return answer;
    }

    int tick(int ticks) {
        argument(1 <= ticks && ticks <= 50);
        save(state.copy());
        int touched = 0;
        for (int k = 0; k < ticks; k++) {
            List<List<Square>> before = allNodes();
            for (Point point : state.points) {
                if (point != null) {
                    step(point);
                }
            }
            touched += touched(before);
            state.time++;
        }
        return touched;
    }

    private static void step(Point point) {
        point.x += point.u;
        if (point.x < 0) {
            point.x = -point.x;
            point.u = -point.u;
        } else if (point.x > 63) {
            point.x = 126 - point.x;
            point.u = -point.u;
        }
        point.y += point.v;
        if (point.y < 0) {
            point.y = -point.y;
            point.v = -point.v;
        } else if (point.y > 63) {
            point.y = 126 - point.y;
            point.v = -point.v;
        }
    }

    int scatter(int first, int many, int area, int seed) {
        index(0 <= first && first < 24);
        argument(1 <= many && many <= 24 - first);
        argument(1 <= area && area <= 64 && 0 <= seed && seed <= 999999);
        save(state.copy());
        long s = seed;
        for (int id = first; id < first + many; id++) {
            s = Math.floorMod(1103515245L * s + 12345, 2147483648L);
            int x = (int) (s / 65536 % area);
            s = Math.floorMod(1103515245L * s + 12345, 2147483648L);
            int y = (int) (s / 65536 % area);
            if (state.points[id] == null) {
                state.points[id] = new Point();
            }
            state.points[id].x = x;
            state.points[id].y = y;
        }
        return set(0).size();
    }

    int point(int id, int what) {
        index(0 <= id && id < 24);
        argument(0 <= what && what <= 5);
        Point point = state.points[id];
        if (what == 5) {
            return height(id);
        }
        if (point == null) {
            return 0;
        }
        return what == 0 ? 1 : what == 1 ? point.x : what == 2 ? point.y : what == 3 ? point.u : point.v;
    }

    // ---- squares

    int level(int level, int what) {
        index(0 <= level && level < 5);
        argument(0 <= what && what <= 4);
        List<Square> nodes = nodes(level);
        int deepest = 0;
        int positionChildren = 0;
        for (Square node : nodes) {
            deepest = Math.max(deepest, depth(nodes, node));
            for (int quadrant = 0; quadrant < 4; quadrant++) {
                positionChildren += childOf(level, nodes, node, quadrant) >= 1000 ? 1 : 0;
            }
        }
        int different = positions(set(level), WHOLE).size();
        return new int[] {set(level).size(), nodes.size(), deepest, positionChildren, different}[what];
    }

    int node(int level, int index, int what) {
        index(0 <= level && level < 5);
        List<Square> nodes = nodes(level);
        index(0 <= index && index < nodes.size());
        argument(0 <= what && what <= 5);
        Square node = nodes.get(index);
        int points = 0;
        for (Point point : set(level)) {
            points += node.holds(point.x, point.y) ? 1 : 0;
        }
        int depth = depth(nodes, node);
        return new int[] {node.a(), node.b(), node.size(), depth, points, quadrants(set(level), node)}[what];
    }

    int child(int level, int index, int quadrant) {
        index(0 <= level && level < 5);
        List<Square> nodes = nodes(level);
        index(0 <= index && index < nodes.size());
        argument(0 <= quadrant && quadrant <= 3);
        return childOf(level, nodes, nodes.get(index), quadrant);
    }

    int search(int x, int y, boolean skip, int what) {
        argument(place(x, y) && 0 <= what && what <= 2);
        int level = 0;
        for (int k = 0; skip && k < 5; k++) {
            level = set(k).isEmpty() ? level : k;
        }
        int steps = 0;
        Square at = WHOLE;
        while (true) {
            List<Square> nodes = nodes(level);
            int child = childOf(level, nodes, at, at.quadrantOf(x, y));
            if (child >= 0 && child < 1000 && nodes.get(child).holds(x, y)) {
                at = nodes.get(child);
                steps++;
            } else if (level > 0) {
                level--;
                steps++;
            } else {
                return what == 0 ? steps : what == 1 ? nodes.indexOf(at) : at.size();
            }
        }
    }

    int worst(boolean skip) {
        int worst = 0;
        for (Point point : set(0)) {
            worst = Math.max(worst, search(point.x, point.y, skip, 0));
        }
        return worst;
    }

    int wouldTouch(int id, int x, int y) {
        index(0 <= id && id < 24);
        argument(place(x, y));
        state(state.points[id] != null);
        State before = state;
        state = before.copy();
        int answer = doMove(id, x, y);
        state = before;
        return answer;
    }

    // ---- distances

    /** All pairs of a distance and an id, in their order. */
    private List<int[]> pairs(int x, int y) {
        List<int[]> pairs = new ArrayList<>();
        for (int id = 0; id < 24; id++) {
            if (state.points[id] != null) {
                pairs.add(new int[] {distance(state.points[id].x, state.points[id].y, x, y), id});
            }
        }
        pairs.sort(Model::compare);
        return pairs;
    }

    private static int compare(int[] pair, int[] other) {
        return pair[0] != other[0] ? Integer.compare(pair[0], other[0]) : Integer.compare(pair[1], other[1]);
    }

    int open(int cursor, int x, int y) {
        index(0 <= cursor && cursor < 4);
        argument(place(x, y));
        save(state.copy());
        state.cursors[cursor] = new Cursor();
        state.cursors[cursor].x = x;
        state.cursors[cursor].y = y;
        return set(0).size();
    }

    private List<int[]> rest(Cursor cursor) {
        List<int[]> rest = new ArrayList<>();
        for (int[] pair : pairs(cursor.x, cursor.y)) {
            if (cursor.last == null || compare(pair, cursor.last) > 0) {
                rest.add(pair);
            }
        }
        return rest;
    }

    int next(int cursor) {
        index(0 <= cursor && cursor < 4);
        save(state.copy());
        List<int[]> rest = rest(state.cursors[cursor]);
        if (rest.isEmpty()) {
            return -1;
        }
        state.cursors[cursor].last = rest.get(0);
        return rest.get(0)[1];
    }

    int cursor(int cursor, int what) {
        index(0 <= cursor && cursor < 4);
        argument(0 <= what && what <= 5);
        Cursor asked = state.cursors[cursor];
        switch (what) {
            case 0: return asked.x;
            case 1: return asked.y;
            case 2: return asked.last == null ? -1 : asked.last[0];
            case 3: return asked.last == null ? -1 : asked.last[1];
            case 4: return rest(asked).size();
            default: return asked.last == null ? 0 : nodesWithin(asked);
        }
    }

    private int nodesWithin(Cursor cursor) {
        int count = 0;
        for (Square node : nodes(0)) {
            count += node.distance(cursor.x, cursor.y) <= cursor.last[0] ? 1 : 0;
        }
        return count;
    }

    int nearest(int x, int y, int rank) {
        argument(place(x, y) && rank >= 0);
        List<int[]> pairs = pairs(x, y);
        return rank < pairs.size() ? pairs.get(rank)[1] : -1;
    }

    int within(int x0, int y0, int x1, int y1) {
        argument(place(x0, y0) && place(x1, y1));
        int count = 0;
        for (Point point : set(0)) {
            count += x0 <= point.x && point.x <= x1 && y0 <= point.y && point.y <= y1 ? 1 : 0;
        }
        return count;
    }

    int closest(int what) {
        argument(0 <= what && what <= 2);
        int[] best = null;
        for (int lower = 0; lower < 24; lower++) {
            for (int higher = lower + 1; higher < 24; higher++) {
                Point p = state.points[lower];
                Point q = state.points[higher];
                if (p != null && q != null && (best == null || distance(p.x, p.y, q.x, q.y) < best[0])) {
                    best = new int[] {distance(p.x, p.y, q.x, q.y), lower, higher};
                }
            }
        }
        return best == null ? -1 : best[what];
    }

    // ---- scripts, undo and checksum

    private static final String NUMBER = " +-?[0-9]{1,2}";
    private static final String COMMAND =
        " *(?:(?:add|move|speed)(?:" + NUMBER + "){3}|(?:drop|tick)" + NUMBER + ") *;";
    private static final Pattern SCRIPT = Pattern.compile("(?:" + COMMAND + ")* *");
    private static final Pattern WORD_AT_END = Pattern.compile("(?:" + COMMAND + ")* *([a-z]+)");
    private static final Set<String> WORDS = Set.of("add", "move", "drop", "speed", "tick");

    /** The fault of a script, found by asking of each of its beginnings whether it can be gone on with. */
    static int fault(String text) {
        for (int end = 1; end <= text.length(); end++) {
            if (!canGoOn(text.substring(0, end))) {
                int start = unknownWordAtEnd(text.substring(0, end - 1));
                return start >= 0 ? start : end - 1;
            }
        }
        if (SCRIPT.matcher(text).matches()) {
            return -1;
        }
        int start = unknownWordAtEnd(text);
        return start >= 0 ? start : text.length();
    }

    private static boolean canGoOn(String text) {
        Matcher matcher = SCRIPT.matcher(text);
        return matcher.matches() || matcher.hitEnd() || WORD_AT_END.matcher(text).matches();
    }

    private static int unknownWordAtEnd(String text) {
        Matcher matcher = WORD_AT_END.matcher(text);
        return matcher.matches() && !WORDS.contains(matcher.group(1)) ? matcher.start(1) : -1;
    }

    int type(int value) {
        argument(0 <= value && value <= 127);
        state(script.length() < 120);
        script.append((char) value);
        return script.length();
    }

    int clearScript() {
        int length = script.length();
        script.setLength(0);
        return length;
    }

    int run() {
        int fault = fault(script.toString());
        if (fault >= 0) {
            return -10 - fault;
        }
        List<State> stack = new ArrayList<>(saved);
        State before = state.copy();
        int done = 0;
        try {
            for (String command : script.toString().split(";")) {
                if (!command.isBlank()) {
                    carryOut(command.trim().split(" +"));
                    done++;
                }
            }
        } catch (IndexOutOfBoundsException | IllegalArgumentException | IllegalStateException e) {
            // the run ends here, with the commands before
        }
        saved.clear();
        saved.addAll(stack);
        save(before);
        return done;
    }

    private void carryOut(String[] parts) {
        int[] n = new int[3];
        for (int k = 1; k < parts.length; k++) {
            n[k - 1] = Integer.parseInt(parts[k]);
        }
        switch (parts[0]) {
            case "add" -> add(n[0], n[1], n[2]);
            case "move" -> move(n[0], n[1], n[2]);
            case "drop" -> remove(n[0]);
            case "speed" -> setVelocity(n[0], n[1], n[2]);
            default -> tick(n[0]);
        }
    }

    int time() {
        return state.time;
    }

    int undo() {
        state(!saved.isEmpty());
        state = saved.remove(saved.size() - 1);
        return saved.size();
    }

    long digest() {
        List<Long> values = new ArrayList<>(List.of((long) saved.size(), (long) script.length(), (long) time()));
        for (int id = 0; id < 24; id++) {
            for (int what = 0; what < 6; what++) {
                values.add((long) point(id, what));
            }
        }
        for (int level = 0; level < 5; level++) {
            for (int what = 0; what < 5; what++) {
                values.add((long) level(level, what));
            }
            for (int index = 0; index < nodes(level).size(); index++) {
                for (int what = 0; what < 6; what++) {
                    values.add((long) node(level, index, what));
                }
                for (int quadrant = 0; quadrant < 4; quadrant++) {
                    values.add((long) child(level, index, quadrant));
                }
            }
        }
        values.add((long) worst(true));
        values.add((long) worst(false));
        for (int cursor = 0; cursor < 4; cursor++) {
            for (int what = 0; what < 6; what++) {
                values.add((long) cursor(cursor, what));
            }
        }
        for (int what = 0; what < 3; what++) {
            values.add((long) closest(what));
        }
        long h = 19606;
        for (long value : values) {
            h = 31 * h + value;
        }
        return h;
    }
}

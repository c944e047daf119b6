/** Runs of calls by the same counted numbers on the class and on the model: each answer must be the same. */
public final class ModelTest {
    private static final String[] SNIPPETS = {
        "add 3 60 60;", "add 7 1 2 ;", " add 15 33 31;", "move 3 5 5;", "move 0 63 0;", "drop 3;", "drop 23;",
        "speed 7 -9 9;", "speed 3 4 -04;", "speed 1 10 0;", "tick 3;", "tick  50;", "tick 0;", "tick -1;",
        "add 24 0 0;", "add 5 64 1;", "adda 1 1 1;", "add", "tick 123;", "tick - 1;", "drop 1", " ; ", "Tick 1;",
        "move 1 2;", "speed 1 2 3 4;", "tick1;", "qqqq", "add 1 1-1 3;", "   ", "tick 5 5;", "drop --1;"
    };

    private static long seed;

    private static int draw(int bound) {
        seed = (6364136223846793005L * seed + 1442695040888963407L);
        return (int) ((seed >>> 33) % bound);
    }

    /** Mostly a number within 0 to bound - 1, at times one beside it. */
    private static int near(int bound) {
        int kind = draw(40);
        if (kind == 0) {
            return -1 - draw(3);
        }
        return kind == 1 ? bound + draw(3) : draw(bound);
    }

    private static int place(int area) {
        return draw(50) == 0 ? near(64) : draw(area);
    }

    public static void main(String[] args) {
        for (int run = 0; run < 60; run++) {
            seed = 1000 + run;
            oneRun(run);
        }
        faults();
        Check.close("ModelTest");
    }

    /** Scripts made of pieces, whole ones and broken ones, against the model's way of finding faults. */
    private static void faults() {
        String[] pieces = {"add", "move", "drop", "speed", "tick", " ", "  ", "-", "1", "23", "456", ";", " ;", "x",
            "add 1 2 3;", "drop 4 ;", "tick -5;", " tick 6;", "?", " 7 8", " 0"};
        seed = 9;
        for (int k = 0; k < 4000; k++) {
            StringBuilder text = new StringBuilder();
            int many = draw(9);
            for (int part = 0; part < many; part++) {
                text.append(pieces[draw(pieces.length)]);
            }
            int fault = Model.fault(text.toString());
            SkipQuadtree tree = new SkipQuadtree();
            long answer = Check.run(tree, text.toString());
            Check.due("fault of \"" + text + "\"", fault, () -> answer <= -10 ? -10 - answer : -1);
        }
    }

    private static void oneRun(int run) {
        SkipQuadtree tree = new SkipQuadtree();
        Model model = new Model();
        int area = new int[] {64, 16, 8, 4, 64, 3}[run % 6];
        int ids = new int[] {24, 8, 24, 16, 4}[run % 5];
        int calls = 0;
        while (calls < 480) {
            calls += draw(12) == 0 ? typeSome(run, tree, model) : oneCall(run, tree, model, area, ids);
            if (draw(20) == 0) {
                same(run, "digest()", tree::digest, model::digest);
                calls++;
            }
        }
        same(run, "digest() at the end", tree::digest, model::digest);
    }

    private static void same(int run, String what, Check.Call got, Check.Call want) {
        Check.same("run " + run + ": " + what, Check.told(got), Check.told(want));
    }

    private static int typeSome(int run, SkipQuadtree tree, Model model) {
        if (draw(2) == 0) {
            same(run, "clearScript()", tree::clearScript, model::clearScript);
        }
        String text = SNIPPETS[draw(draw(2) == 0 ? 12 : SNIPPETS.length)];
        for (int k = 0; k < text.length(); k++) {
            int value = draw(60) == 0 ? draw(130) : text.charAt(k);
            same(run, "type(" + value + ")", () -> tree.type(value), () -> model.type(value));
        }
        if (draw(2) == 0) {
            same(run, "run()", tree::run, model::run);
        }
        return text.length() + 2;
    }

    private static int oneCall(int run, SkipQuadtree tree, Model model, int area, int ids) {
        int id = draw(8) == 0 ? near(24) : draw(ids);
        int x = place(area);
        int y = place(area);
        int p = near(10);
        switch (draw(9)) {
            case 0:
                same(run, "move(" + id + ", " + x + ", " + y + ")", () -> tree.move(id, x, y), () -> model.move(id, x, y));
                break;
            case 1:
                same(run, "undo()", tree::undo, model::undo);
                break;
            case 2:
                same(run, "remove(" + id + ")", () -> tree.remove(id), () -> model.remove(id));
                break;
            case 3:
                setSpeed(run, tree, model, id, p - 1, near(10));
                break;
            case 4:
                int ticks = draw(3) == 0 ? near(51) : 1 + draw(3);
                same(run, "tick(" + ticks + ")", () -> tree.tick(ticks), () -> model.tick(ticks));
                break;
            case 5:
                if (draw(4) == 0) {
                    scatter(run, tree, model, area);
                }
                break;
            case 6:
                cursors(run, tree, model, x, y);
                break;
            case 7:
                ask(run, tree, model, x, y, id);
                break;
            default:
                same(run, "add(" + id + ", " + x + ", " + y + ")", () -> tree.add(id, x, y), () -> model.add(id, x, y));
        }
        return 1;
    }

    private static void setSpeed(int run, SkipQuadtree tree, Model model, int id, int a, int b) {
        int u = draw(2) == 0 ? a : -a;
        int v = draw(2) == 0 ? b : -b;
        same(run, "setVelocity(" + id + ", " + u + ", " + v + ")", () -> tree.setVelocity(id, u, v),
            () -> model.setVelocity(id, u, v));
    }

    private static void scatter(int run, SkipQuadtree tree, Model model, int area) {
        int first = near(24);
        int many = draw(4) == 0 ? near(26) : 1 + draw(Math.max(1, 24 - Math.max(0, first)));
        int size = draw(4) == 0 ? near(66) : area;
        int number = draw(9) == 0 ? near(1000000) : draw(1000000);
        same(run, "scatter(" + first + ", " + many + ", " + size + ", " + number + ")",
            () -> tree.scatter(first, many, size, number), () -> model.scatter(first, many, size, number));
    }

    private static void cursors(int run, SkipQuadtree tree, Model model, int x, int y) {
        int cursor = near(4);
        int what = near(6);
        switch (draw(6)) {
            case 0:
                same(run, "open(" + cursor + ", " + x + ", " + y + ")", () -> tree.open(cursor, x, y),
                    () -> model.open(cursor, x, y));
                break;
            case 1:
            case 2:
                same(run, "cursor(" + cursor + ", " + what + ")", () -> tree.cursor(cursor, what),
                    () -> model.cursor(cursor, what));
                break;
            default:
                same(run, "next(" + cursor + ")", () -> tree.next(cursor), () -> model.next(cursor));
        }
    }

    private static void ask(int run, SkipQuadtree tree, Model model, int x, int y, int id) {
        int p = near(6);
        int q = near(64);
        int r = near(64);
        int level = near(5);
        int index = near(12);
        boolean skip = draw(2) == 0;
        switch (draw(10)) {
            case 0:
                same(run, "wouldTouch(" + id + ", " + x + ", " + y + ")", () -> tree.wouldTouch(id, x, y),
                    () -> model.wouldTouch(id, x, y));
                break;
            case 1:
                same(run, "search(" + x + ", " + y + ", " + skip + ", " + p + ")", () -> tree.search(x, y, skip, p),
                    () -> model.search(x, y, skip, p));
                break;
            case 2:
                same(run, "nearest(" + x + ", " + y + ", " + index + ")", () -> tree.nearest(x, y, index),
                    () -> model.nearest(x, y, index));
                break;
            case 3:
                same(run, "within(" + x + ", " + y + ", " + q + ", " + r + ")", () -> tree.within(x, y, q, r),
                    () -> model.within(x, y, q, r));
                break;
            case 4:
                same(run, "closest(" + p + ")", () -> tree.closest(p), () -> model.closest(p));
                break;
            case 5:
                same(run, "level(" + level + ", " + p + ")", () -> tree.level(level, p), () -> model.level(level, p));
                break;
            case 6:
                same(run, "node(" + level + ", " + index + ", " + p + ")", () -> tree.node(level, index, p),
                    () -> model.node(level, index, p));
                break;
            case 7:
                same(run, "child(" + level + ", " + index + ", " + p + ")", () -> tree.child(level, index, p),
                    () -> model.child(level, index, p));
                break;
            case 8:
                same(run, "worst(" + skip + ")", () -> tree.worst(skip), () -> model.worst(skip));
                break;
            default:
                same(run, "point(" + id + ", " + p + ")", () -> tree.point(id, p), () -> model.point(id, p));
        }
    }
}

/** Promises 21 to 26: the script, its faults and runs, undo and the checksum. */
public final class ScriptsTest {
    private static final int MARK = -10;

    public static void main(String[] args) {
        type();
        clearScript();
        runs();
        stoppedRuns();
        wordFaults();
        numberFaults();
        placeFaults();
        scriptsWithoutFault();
        fullScripts();
        shorterScripts();
        runAndUndo();
        time();
        undo();
        undoRestoresAll();
        undoOfCursors();
        digest();
        Check.close("ScriptsTest");
    }

    /** Promise 21. */
    private static void type() {
        SkipQuadtree t = new SkipQuadtree();
        Check.badArgument(t, "type(-1)", () -> t.type(-1));
        Check.badArgument(t, "type(128)", () -> t.type(128));
        for (int k = 1; k <= 120; k++) {
            int value = k == 1 ? 0 : k == 2 ? 127 : 32;
            Check.due("type number " + k, k, () -> t.type(value));
        }
        Check.badArgument(t, "type(128) into a full script", () -> t.type(128));
        Check.badState(t, "type(32) into a full script", () -> t.type(32));
        Check.due("run() of a byte 0", MARK, t::run);
        Check.badState(t, "undo() after typing", t::undo);
    }

    /** Promise 22. */
    private static void clearScript() {
        SkipQuadtree t = new SkipQuadtree();
        Check.due("clearScript() of an empty script", 0, t::clearScript);
        Check.type(t, "tick 1;");
        Check.due("clearScript()", 7, t::clearScript);
        Check.due("clearScript() again", 0, t::clearScript);
        Check.due("run() of the empty script", 0, t::run);
        Check.due("type after it", 1, () -> t.type('t'));
    }

    /** Promise 23. */
    private static void runs() {
        SkipQuadtree t = new SkipQuadtree();
        String text = "add 0 10 20;  speed 0 -3 9 ;move 0  11 21; tick 2; add 23 63 0; ";
        Check.due("run of all words", 5, () -> Check.run(t, text));
        Check.due("x", 5, () -> t.point(0, 1));
        Check.due("y", 39, () -> t.point(0, 2));
        Check.due("u", -3, () -> t.point(0, 3));
        Check.due("v", 9, () -> t.point(0, 4));
        Check.due("x of 23", 63, () -> t.point(23, 1));
        Check.due("y of 23", 0, () -> t.point(23, 2));
        Check.due("time()", 2, t::time);
        Check.due("the script stays", text.length(), t::clearScript);
        Check.due("run of drop", 1, () -> Check.run(t, "drop 0;"));
        Check.due("point(0, 0)", 0, () -> t.point(0, 0));
        Check.due("the same script again", 0, t::run);
        Check.due("numbers with a zero in front", 2, () -> Check.run(t, "add 00 07 09;tick 05;"));
        Check.due("y of 00", 9, () -> t.point(0, 2));
        Check.due("minus zero", 2, () -> Check.run(t, "move -0 -00 1;speed 0 -09 -9;"));
        Check.due("x of -0", 0, () -> t.point(0, 1));
        Check.due("setVelocity after speed", 99, () -> t.setVelocity(0, 0, 0));
        Check.due("a full script", 17, () -> Check.run(t, "tick 9;tick 9;tick 9;tick 9;tick 9;tick 9;tick 9;tick 9;"
            + "tick 9;tick 9;tick 9;tick 9;tick 9;tick 9;tick 9;tick 9;tick 9; "));
        Check.due("time() after it", 2 + 5 + 17 * 9, t::time);
    }

    private static void stoppedRuns() {
        String[] stopping = {"add 24 1 1;", "add -1 1 1;", "add 2 64 1;", "add 2 1 -1;", "add 1 1 1;", "move 24 1 1;",
            "move 1 99 1;", "move 2 1 1;", "drop 24;", "drop -1;", "drop 2;", "speed 24 1 1;", "speed 1 10 1;",
            "speed 1 1 -10;", "speed 2 1 1;", "tick 0;", "tick 51;", "tick -1;"};
        for (String command : stopping) {
            SkipQuadtree t = new SkipQuadtree();
            Check.due("run stopped by " + command, 1, () -> Check.run(t, "add 1 5 6;" + command + "tick 1;"));
            Check.due("time() after " + command, 0, t::time);
            Check.due("point(1, 2) after " + command, 6, () -> t.point(1, 2));
            Check.due("points after " + command, 1, () -> t.level(0, 0));
            Check.due("undo() after " + command, 0, t::undo);
            Check.due("points after undo of " + command, 0, () -> t.level(0, 0));
        }
    }

    private static void dueFault(String text, int fault) {
        SkipQuadtree t = new SkipQuadtree();
        t.add(1, 2, 3);
        Check.due("run of \"" + text + "\"", MARK - fault, () -> Check.run(t, text));
        Check.due("time() after \"" + text + "\"", 0, t::time);
        Check.due("undo() after \"" + text + "\"", 0, t::undo);
        Check.due("the model's fault of \"" + text + "\"", fault, () -> Model.fault(text));
    }

    private static void wordFaults() {
        dueFault("spin 1;", 0);
        dueFault("tick 1; ticks 1;", 8);
        dueFault("tick 1;tic", 7);
        dueFault("tick 1;tic;", 7);
        dueFault("  ad!", 2);
        dueFault("addd 1 1 1;", 0);
        dueFault("xdd 1 1 1;", 0);
        dueFault("axd 1 1 1;", 0);
        dueFault("adx 1 1 1;", 0);
        dueFault("remove 1;", 0);
        dueFault("add1 1 1;", 3);
        dueFault("add;", 3);
        dueFault("add", 3);
        dueFault("tick 3; a", 8);
        dueFault("Tick 1;", 0);
        dueFault("tIck 1;", 0);
        dueFault("tick{", 4);
        dueFault("`", 0);
        dueFault("1", 0);
        dueFault("drop", 4);
        dueFault("aaaaaaaaaaaaaaaaaaaaaaaaaaaaaaaaaaaaaaaaa", 0);
    }

    private static void numberFaults() {
        dueFault("tick 123;", 7);
        dueFault("tick - 1;", 6);
        dueFault("tick --1;", 6);
        dueFault("tick 1-1;", 6);
        dueFault("tick -123;", 8);
        dueFault("tick +1;", 5);
        dueFault("tick /;", 5);
        dueFault("tick :;", 5);
        dueFault("tick a;", 5);
        dueFault("tick 1a;", 6);
        dueFault("tick ;", 5);
        dueFault("tick   ;", 7);
        dueFault("tick -;", 6);
        dueFault("tick -", 6);
        dueFault("tick ", 5);
        dueFault("tick 1", 6);
        dueFault("tick 12", 7);
        dueFault("tick 12  ", 9);
        dueFault("tick\t1;", 4);
    }

    private static void placeFaults() {
        dueFault(";", 0);
        dueFault("tick 1;;", 7);
        dueFault("tick 1 ; ;", 9);
        dueFault("tick 1 1;", 7);
        dueFault("drop 1 1;", 7);
        dueFault("add 1 1;", 7);
        dueFault("add 1 1 ;", 8);
        dueFault("add 1 1 1 1;", 10);
        dueFault("move 1 1;", 8);
        dueFault("speed 1 1;", 9);
        dueFault("add 1 1 1", 9);
        dueFault("tick 1 tick 1;", 7);
        dueFault("tick 1;-", 7);
        dueFault("add 3 60 60;tick 1;drop 1", 25);
        dueFault("add 24 1 1;tick", 15);
    }

    private static void scriptsWithoutFault() {
        String[] texts = {"", " ", "     ", "tick 1;", " tick 1;", "tick 1 ;", "tick    1    ;    ", "tick 1;tick 1;"};
        int[] wants = {0, 0, 0, 1, 1, 1, 1, 2};
        for (int k = 0; k < texts.length; k++) {
            SkipQuadtree t = new SkipQuadtree();
            String text = texts[k];
            Check.due("run of \"" + text + "\"", wants[k], () -> Check.run(t, text));
            Check.due("undo() after \"" + text + "\"", 0, t::undo);
        }
    }

    /** Scripts of 120 bytes, each ending in another kind of byte. */
    private static void fullScripts() {
        String front = "tick 1;".repeat(16);
        String[] ends = {"aaaaaaaa", "        ", "    tick", "tick   1", "tick  12", "tick   -", "tick    ", "tick 12 ",
            "tick 12;"};
        int[] answers = {MARK - 112, 16, MARK - 120, MARK - 120, MARK - 120, MARK - 120, MARK - 120, MARK - 120, 17};
        for (int k = 0; k < ends.length; k++) {
            String text = front + ends[k];
            int want = answers[k];
            Check.due("run of a full script with the end \"" + ends[k] + "\"", want,
                () -> Check.run(new SkipQuadtree(), text));
        }
        Check.due("run of 120 letters", MARK, () -> Check.run(new SkipQuadtree(), "a".repeat(120)));
        Check.due("run of 120 spaces", 0, () -> Check.run(new SkipQuadtree(), " ".repeat(120)));
    }

    /** What stood in the script before it was emptied must not be read any more. */
    private static void shorterScripts() {
        SkipQuadtree t = new SkipQuadtree();
        Check.due("a longer word", MARK, () -> Check.run(t, "ticka 1;"));
        Check.due("a shorter word", MARK - 4, () -> Check.run(t, "tick"));
        Check.due("a longer number", 1, () -> Check.run(t, "tick 12;"));
        Check.due("a shorter number", MARK - 6, () -> Check.run(t, "tick 1"));
        Check.due("a number and a space", MARK - 8, () -> Check.run(t, "tick 12 "));
        Check.due("a number with a semicolon behind the end", MARK - 7, () -> Check.run(t, "tick 12"));
    }

    private static void runAndUndo() {
        SkipQuadtree t = new SkipQuadtree();
        t.add(5, 5, 5);
        Check.due("run of five commands", 5, () -> Check.run(t, "add 1 1 1;add 2 2 2;add 3 3 3;drop 5;tick 7;"));
        Check.due("undo() of a run", 1, t::undo);
        Check.due("points after it", 1, () -> t.level(0, 0));
        Check.due("point(5, 0) after it", 1, () -> t.point(5, 0));
        Check.due("time() after it", 0, t::time);
        Check.due("the script after it", 44, () -> t.type(' ') - 1);
        Check.due("run() again", 5, t::run);
    }

    /** Promise 24. */
    private static void time() {
        SkipQuadtree t = new SkipQuadtree();
        t.tick(50);
        Check.due("time()", 50, t::time);
        Check.run(t, "tick 3;tick 4;");
        Check.due("time() after a run", 57, t::time);
        t.undo();
        Check.due("time() after undo", 50, t::time);
        Check.due("undo() to the start", 0, t::undo);
        Check.due("time() at the start", 0, t::time);
    }

    /** Promise 25. */
    private static void undo() {
        SkipQuadtree t = new SkipQuadtree();
        Check.badState(t, "undo() of an empty stack", t::undo);
        for (int id = 0; id < 9; id++) {
            t.add(id, id, id);
        }
        for (int left = 3; left >= 0; left--) {
            Check.due("undo() that leaves " + left, left, t::undo);
            int points = left + 5;
            Check.due("points then", points, () -> t.level(0, 0));
        }
        Check.badState(t, "undo() of a stack that is used up", t::undo);
        t.tick(1);
        t.tick(2);
        Check.due("undo() of the later", 1, t::undo);
        t.tick(4);
        Check.due("undo() of the one after it", 1, t::undo);
        Check.due("time() then", 1, t::time);
        Check.due("undo() of the first", 0, t::undo);
        Check.due("time() at last", 0, t::time);
    }

    private static void fourChanges(SkipQuadtree t) {
        t.setVelocity(7, 3, -2);
        t.open(1, 20, 20);
        t.next(1);
        t.tick(5);
    }

    private static void undoFour(SkipQuadtree t) {
        for (int k = 0; k < 4; k++) {
            t.undo();
        }
    }

    private static void undoRestoresAll() {
        SkipQuadtree t = new SkipQuadtree();
        t.scatter(0, 20, 32, 4711);
        fourChanges(t);
        long before = t.digest();
        SkipQuadtree plain = new SkipQuadtree();
        plain.scatter(0, 20, 32, 4711);
        fourChanges(plain);
        Check.type(t, "tick");
        t.open(1, 1, 1);
        t.open(2, 1, 1);
        t.remove(7);
        t.scatter(0, 24, 64, 5);
        undoFour(t);
        Check.due("the script stays through undo", 4, t::clearScript);
        compareAll(t, plain);
        undoFour(plain);
        Check.due("time() after undoing all that is left", 0, plain::time);
        fourChanges(plain);
        Check.due("digest() after the same calls were undone and made again", before, plain::digest);
    }

    private static void compareAll(SkipQuadtree t, SkipQuadtree other) {
        Check.due("time()", other.time(), t::time);
        for (int what = 0; what < 6; what++) {
            int asked = what;
            for (int id = 0; id < 24; id++) {
                int point = id;
                Check.due("point(" + id + ", " + what + ")", other.point(id, what), () -> t.point(point, asked));
            }
            for (int k = 0; k < 4; k++) {
                int cursor = k;
                Check.due("cursor(" + k + ", " + what + ")", other.cursor(k, what), () -> t.cursor(cursor, asked));
            }
        }
        for (int level = 0; level < 5; level++) {
            int asked = level;
            Check.due("nodes of " + level, other.level(level, 1), () -> t.level(asked, 1));
        }
    }

    private static void undoOfCursors() {
        SkipQuadtree t = new SkipQuadtree();
        t.scatter(0, 5, 64, 8);
        for (int k = 0; k < 4; k++) {
            int cursor = k;
            t.open(cursor, 10 + k, 20 + k);
            int first = t.next(cursor);
            t.next(cursor);
            t.undo();
            Check.due("the last id of cursor " + k + " after undo of next", first, () -> t.cursor(cursor, 3));
            t.open(cursor, 1, 2);
            t.undo();
            Check.due("the last id of cursor " + k + " after undo of open", first, () -> t.cursor(cursor, 3));
            Check.due("x of cursor " + k + " after undo of open", 10 + k, () -> t.cursor(cursor, 0));
            Check.due("y of cursor " + k + " after undo of open", 20 + k, () -> t.cursor(cursor, 1));
            t.undo();
            Check.due("the last id of cursor " + k + " after undo of the first next", -1, () -> t.cursor(cursor, 3));
        }
    }

    /** Promise 26. */
    private static void digest() {
        SkipQuadtree t = new SkipQuadtree();
        Model m = new Model();
        t.scatter(0, 24, 64, 31);
        m.scatter(0, 24, 64, 31);
        Check.due("digest() after scatter", m.digest(), t::digest);
        t.type('x');
        Check.due("digest() depends on the script's length", 1, () -> m.digest() == t.digest() ? 0 : 1);
        m.type('y');
        Check.due("digest() does not depend on the script's bytes", m.digest(), t::digest);
        t.setVelocity(3, 0, 0);
        Check.due("digest() depends on the stack", 1, () -> m.digest() == t.digest() ? 0 : 1);
        m.setVelocity(3, 0, 0);
        t.tick(1);
        m.tick(1);
        Check.due("digest() after a tick", m.digest(), t::digest);
        t.next(2);
        m.next(2);
        Check.due("digest() after next", m.digest(), t::digest);
        Check.due("digest() changes nothing", t.digest(), t::digest);
    }
}

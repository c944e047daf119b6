import java.math.BigInteger;
import java.util.ArrayList;
import java.util.List;

/** Promises 21 to 26: the script, its faults and runs, the time, undo and the checksum. */
final class ScriptPromises {
    private static final int MARK = -10;
    private static final String DIGITS = "0123456789";

    private ScriptPromises() {
    }

    static void tests() {
        type();
        clearScript();
        run();
        scripts();
        faults();
        time();
        undo();
        saves();
        digest();
    }

    private static void type() {
        Promise.test(21, "Appends a byte to the script.", ScriptPromises::typeAppends);
        Promise.test(21, "- `value`: 0 to 127", ScriptPromises::typeValues);
        Promise.test(21, "Returns the length of the script.", ScriptPromises::typeAnswers);
        Promise.test(21, "Throws `IllegalArgumentException` if value is out of range", ScriptPromises::typeArguments);
        Promise.test(21, "Throws `IllegalStateException` if the script has 120 bytes", ScriptPromises::typeIntoFull);
        Promise.test(21, Promise.ALL_EXCEPTIONS, ScriptPromises::typeOrder);
        Promise.test(21, "The script has at most 120 bytes.", ScriptPromises::fullScripts);
    }

    private static void clearScript() {
        Promise.test(22, "Empties the script.", ScriptPromises::clearEmpties);
        Promise.test(22, "Returns the length that it had.", ScriptPromises::clearAnswers);
    }

    private static void run() {
        Promise.test(23, "Runs the script, which stays as it is.", ScriptPromises::scriptStays);
        Promise.test(23, "Undoable, if it has no fault.", ScriptPromises::runUndoable);
        Promise.test(23, "Returns the number of commands that were carried out; -10 minus the fault if it has one.",
            ScriptPromises::leastAndGreatestRun);
        Promise.test(23, "if it has a fault, nothing is done", ScriptPromises::faultDoesNothing);
        Promise.test(23, "otherwise the commands are carried out in their order", ScriptPromises::orderOfCommands);
        Promise.test(23, "until one of them would throw an exception, which is not thrown",
            ScriptPromises::stoppedRuns);
        Promise.test(23, "A run saves one state, the one from before it; its commands save none.",
            ScriptPromises::runSavesOne);
    }

    private static void scripts() {
        Promise.test(23,
            "It is a sequence of commands, each of which is a word of letters a to z, followed by its numbers, "
            + "each with at least one space (byte 32) in front, and a semicolon.", ScriptPromises::commands);
        Promise.test(23, "A number has one or two digits, and may have a minus sign directly in front.",
            ScriptPromises::numbers);
        Promise.test(23, "Spaces may also stand in front of a command, in front of a semicolon, and at the end.",
            ScriptPromises::spaces);
        Promise.test(23, "The words are: add i x y (add(i, x, y)), move i x y, drop i (remove(i)), speed i u v "
            + "(setVelocity(i, u, v)), tick n.", ScriptPromises::words);
    }

    private static void faults() {
        Promise.test(23, "the index of the first byte that cannot stand at its place", ScriptPromises::eachByte);
        Promise.test(23, "the length of the script if it ends too soon", ScriptPromises::eachEnd);
        Promise.test(23, "A word that is not one of these is at fault with its first byte", ScriptPromises::wordFaults);
        Promise.test(23, "found when the word is complete: when a byte that is no letter, or the end of the script, "
            + "follows it", ScriptPromises::firstOfSeveralFaults);
    }

    private static void time() {
        Promise.test(24, "Returns the number of ticks so far.", ScriptPromises::timeStands);
        Promise.test(24, "Returns the number.", ScriptPromises::timeOfManyCalls);
        Promise.test(24, "An object is used for at most 512 calls after it has been made", ScriptPromises::lastCalls);
    }

    private static void undo() {
        Promise.test(25, "Restores the latest saved state and removes it from the undo stack.",
            ScriptPromises::undoStands);
        Promise.test(25, "Returns the number of states that are left on the stack.", ScriptPromises::undoAnswers);
        Promise.test(25, "Throws `IllegalStateException` if the stack is empty", ScriptPromises::undoOfNone);
        Promise.test(25, "A call that throws an exception changes nothing.", ScriptPromises::refusedCallsChangeNothing);
    }

    private static void saves() {
        Promise.test(25,
            "Every method that is marked \"undoable\" saves the whole state but the script on an undo stack "
            + "when it ends normally", ScriptPromises::wholeStateIsSaved);
        Promise.test(25, "the whole state but the script", ScriptPromises::scriptIsNotSaved);
        Promise.test(25, "also if it changes nothing", ScriptPromises::savesWithoutChange);
        Promise.test(25, "Every method that is marked \"undoable\" saves", ScriptPromises::othersSaveNothing);
        Promise.test(25, "The saved state is the one from before the call.", ScriptPromises::savedFromBefore);
        Promise.test(25, "The stack keeps the latest 4 saved states and drops older ones.", ScriptPromises::fourSaves);
    }

    private static void digest() {
        Promise.test(26, "Returns a hash of the state.", ScriptPromises::digestOfStates);
        Promise.test(26, "It starts with h = 19606.", ScriptPromises::digestOfNew);
        Promise.test(26, "For each of the following values v, in this order, h becomes 31 * h + v (long arithmetic, "
            + "overflow wraps).", ScriptPromises::digestOfOrder);
        Promise.test(26,
            "the number of states on the undo stack, the length of the script, time(); for each id point() of "
            + "0 to 5; for each level level() of 0 to 4, and for each node, in order, node() of 0 to 5 and "
            + "child() of 0 to 3;",
            ScriptPromises::digestOfLevels);
        Promise.test(26, "worst(true), worst(false); for each cursor cursor() of 0 to 5; closest() of 0 to 2.",
            ScriptPromises::digestOfCursors);
        Promise.test(26, "Returns the hash.", ScriptPromises::digestChangesNothing);
    }

    private static void dueRun(String text, int due) {
        Check.due("run of \"" + text + "\"", due, () -> Check.run(new SkipQuadtree(), text));
    }

    private static void dueFault(String text, int fault) {
        dueRun(text, MARK - fault);
    }

    private static void dueTick(SkipQuadtree t, int due) {
        Check.due("time()", due, t::time);
    }

    // ---- promise 21

    private static void typeAppends() {
        SkipQuadtree t = new SkipQuadtree();
        Check.type(t, "tick 12;");
        Check.due("run()", 1, t.run());
        dueTick(t, 12);
        Check.type(t, "tick 3;");
        Check.due("run() of what was appended", 2, t.run());
        dueTick(t, 12 + 15);
        t.type('!');
        Check.due("run() of another byte", MARK - 15, t.run());
        SkipQuadtree busy = Promise.busy();
        busy.type(' ');
        Check.same("all values behind type", Promise.values(busy).toString(),
            Promise.values(Promise.busy()).toString());
    }

    private static void typeValues() {
        Promise.range(Promise::busy, "type", 0, 127, Promise.BAD_ARGUMENT, (t, value) -> t.type(value));
        for (int value = 0; value <= 127; value++) {
            int typed = value;
            Check.due("type(" + value + ")", 1, () -> new SkipQuadtree().type(typed));
        }
        for (int value : new int[] {0, 127}) {
            SkipQuadtree t = new SkipQuadtree();
            t.type(' ');
            t.type(value);
            Check.due("run() of a byte " + value, MARK - 1, t.run());
        }
    }

    private static void typeAnswers() {
        SkipQuadtree t = new SkipQuadtree();
        for (int length = 1; length <= 120; length++) {
            Check.due("type number " + length, length, t.type(' '));
        }
        t.clearScript();
        Check.due("type after clearScript()", 1, t.type(' '));
    }

    private static void typeArguments() {
        for (int value : new int[] {-1, 128, 255, 256, -128, 32 + 256}) {
            Promise.refused("type(" + value + ")", Promise.BAD_ARGUMENT, t -> t.type(value));
        }
    }

    private static SkipQuadtree typed(int bytes) {
        SkipQuadtree t = Promise.oneSaved();
        t.clearScript();
        Check.type(t, "tick 50;".repeat(15).substring(0, bytes));
        return t;
    }

    private static void typeIntoFull() {
        Promise.outcome(() -> typed(119), "type(59) as the last", Promise.FINE, t -> t.type(';'));
        for (int value : new int[] {0, 32, 59, 127}) {
            Promise.outcome(() -> typed(120), "type(" + value + ") into a full script", Promise.BAD_STATE,
                t -> t.type(value));
        }
        SkipQuadtree t = typed(120);
        Check.same("type(32)", Check.told(() -> t.type(32)), Promise.BAD_STATE);
        Check.due("clearScript()", 120, t.clearScript());
        Check.due("type(32) then", 1, t.type(32));
    }

    private static void typeOrder() {
        for (int value : new int[] {-1, 0, 127, 128}) {
            String bad = value < 0 || value > 127 ? Promise.BAD_ARGUMENT : "";
            Promise.outcome(() -> typed(120), "type(" + value + ") into a full script",
                bad.isEmpty() ? Promise.BAD_STATE : bad, t -> t.type(value));
            Promise.outcome(() -> typed(119), "type(" + value + ") as the last",
                bad.isEmpty() ? Promise.FINE : bad, t -> t.type(value));
        }
    }

    /** Scripts of 120 bytes, each ending in another kind of byte. */
    private static void fullScripts() {
        String front = "tick 1;".repeat(16);
        String[] ends = {"aaaaaaaa", "        ", "    tick", "tick   1", "tick  12", "tick   -", "tick    ", "tick 12 ",
            "tick 12;", "       ;", "tick 123"};
        int[] answers = {MARK - 112, 16, MARK - 120, MARK - 120, MARK - 120, MARK - 120, MARK - 120, MARK - 120, 17,
            MARK - 119, MARK - 119};
        for (int k = 0; k < ends.length; k++) {
            dueRun(front + ends[k], answers[k]);
        }
        dueRun("a".repeat(120), MARK);
        dueRun(" ".repeat(120), 0);
        dueRun(" ".repeat(119) + ";", MARK - 119);
        dueRun("add" + " ".repeat(117), MARK - 120);
        dueRun("tick" + " ".repeat(114) + "1;", 1);
    }

    // ---- promise 22

    private static void clearEmpties() {
        SkipQuadtree t = new SkipQuadtree();
        Check.type(t, "tick 1;");
        t.clearScript();
        Check.due("run() of the emptied script", 0, t.run());
        dueTick(t, 0);
        Check.due("a longer word", MARK, () -> Check.run(t, "ticka 1;"));
        Check.due("a shorter word", MARK - 4, () -> Check.run(t, "tick"));
        Check.due("a longer number", 1, () -> Check.run(t, "tick 12;"));
        Check.due("a shorter number", MARK - 6, () -> Check.run(t, "tick 1"));
        Check.due("a number and a space", MARK - 8, () -> Check.run(t, "tick 12 "));
        Check.due("a number with a semicolon behind the end", MARK - 7, () -> Check.run(t, "tick 12"));
        SkipQuadtree busy = Promise.busy();
        busy.clearScript();
        Check.same("all values behind it", Promise.values(busy).toString(), Promise.values(Promise.busy()).toString());
    }

    private static void clearAnswers() {
        SkipQuadtree t = new SkipQuadtree();
        Check.due("clearScript() of an empty script", 0, t.clearScript());
        for (int length : new int[] {1, 2, 119, 120}) {
            Check.type(t, ";".repeat(length));
            Check.due("clearScript() of " + length, length, t.clearScript());
            Check.due("clearScript() again", 0, t.clearScript());
        }
    }

    // ---- promise 23

    private static void scriptStays() {
        SkipQuadtree t = new SkipQuadtree();
        t.add(5, 1, 1);
        Check.due("run()", 2, () -> Check.run(t, "tick 3;move 5 9 9; "));
        Check.due("run() again", 2, t.run());
        dueTick(t, 6);
        Check.due("the length behind it", 19, t.clearScript());
        Check.type(t, "tick 1;drop 9;");
        Check.due("run() that is stopped", 1, t.run());
        Check.due("the same again", 1, t.run());
        dueTick(t, 8);
        Check.due("the length then", 14, t.clearScript());
        Check.type(t, "tick 1;drop");
        Check.due("run() with a fault", MARK - 11, t.run());
        Check.due("the length behind the fault", 12, t.type(' '));
    }

    private static void runUndoable() {
        String[] fine = {"", " ", "tick 1;", "add 20 1 2;drop 7;speed 4 1 1;tick 50;", "add 7 1 1;", "tick 0;",
            "drop 7;drop 7;"};
        for (String text : fine) {
            Promise.undoable("run of \"" + text + "\"", t -> withScript(t, text));
        }
        for (String text : new String[] {"tick 1", "x", ";", "add 20 1 2;drop 7;speed 4 1 1;tick 5"}) {
            Promise.savesNothing("run of \"" + text + "\"", t -> withScript(t, text));
        }
    }

    /** A run of another script, which is put back to the one of Promise.busy() then. */
    private static long withScript(SkipQuadtree t, String text) {
        long answer = Check.run(t, text);
        t.clearScript();
        Check.type(t, "tick 3;speed 7 1 2;tick 4;");
        return answer;
    }

    private static void leastAndGreatestRun() {
        dueRun("", 0);
        dueRun("tick 0;", 0);
        dueRun("tick 1;", 1);
        dueRun("tick 1;".repeat(17), 17);
        dueRun("tick 1;".repeat(17) + " ", 17);
        dueRun("tick 1;".repeat(16) + "tick 0;", 16);
        dueRun("x", MARK);
        dueRun(" x", MARK - 1);
        dueRun("tick 1;".repeat(17) + ";", MARK - 119);
        dueRun("tick 1;".repeat(16) + "tick   1", MARK - 120);
    }

    private static void faultDoesNothing() {
        for (String text : new String[] {"drop 7;tick 9;drop", "tick 1;x", "add 20 1 1;;", "tick 50;tick 123;"}) {
            SkipQuadtree got = Promise.busy();
            SkipQuadtree want = Promise.busy();
            withScript(got, text);
            Promise.sameState("run of \"" + text + "\"", got, want);
        }
    }

    private static void orderOfCommands() {
        SkipQuadtree t = new SkipQuadtree();
        Check.due("run()", 9,
            () -> Check.run(t, "add 0 10 20;speed 0 -3 9;move 0 11 21;tick 2;add 1 3 4;drop 1;add 1 5 6;"
            + "move 1 7 8;speed 0 1 2;"));
        int[] first = {1, 5, 39, 1, 2};
        int[] second = {1, 7, 8, 0, 0};
        for (int what = 0; what < 5; what++) {
            Check.due("point(0, " + what + ")", first[what], t.point(0, what));
            Check.due("point(1, " + what + ")", second[what], t.point(1, what));
        }
        dueTick(t, 2);
        Check.due("nodes", 1, t.level(0, 1));
    }

    private static void stoppedRuns() {
        String[] stopping = {"add 24 1 1;", "add -1 1 1;", "add 2 64 1;", "add 2 -1 1;", "add 2 1 -1;", "add 2 1 64;",
            "add 1 1 1;", "move 24 1 1;", "move -1 1 1;", "move 1 64 1;", "move 1 -1 1;", "move 1 1 64;",
            "move 1 1 -1;", "move 2 1 1;", "drop 24;", "drop -1;", "drop 2;", "speed 24 1 1;", "speed -1 1 1;",
            "speed 1 10 1;", "speed 1 -10 1;", "speed 1 1 10;", "speed 1 1 -10;", "speed 2 1 1;", "tick 0;",
            "tick 51;", "tick -1;", "tick 99;", "tick -99;"};
        for (String command : stopping) {
            SkipQuadtree got = new SkipQuadtree();
            SkipQuadtree want = new SkipQuadtree();
            Check.due("run stopped by " + command, 1, () -> Check.run(got, "add 1 5 6;" + command + "tick 1;"));
            Check.run(want, "add 1 5 6;");
            Check.run(want, "tick 0;");
            Check.due("run stopped at once by " + command, 0, () -> Check.run(got, command + "tick 1;"));
            got.clearScript();
            want.clearScript();
            Promise.sameState("runs stopped by " + command, got, want);
        }
    }

    private static void runSavesOne() {
        SkipQuadtree t = Promise.oneSaved();
        String text = "add 1 1 1;add 2 2 2;add 3 3 3;drop 5;tick 7;move 1 2 3;speed 2 3 4;";
        Check.due("run of seven commands", 7, () -> Check.run(t, text));
        Check.due("undo() of the run", 1, t::undo);
        Check.same("all values then", Promise.values(t).toString(), Promise.values(Promise.oneSaved()).toString());
        Check.due("the next undo()", 0, t::undo);
        SkipQuadtree full = Promise.busy();
        Check.run(full, text);
        Check.due("undo() of the run with a full stack", 3, full::undo);
        Check.same("all values then", Promise.values(full).toString(), Promise.values(Promise.busy()).toString());
        SkipQuadtree stopped = Promise.oneSaved();
        Check.run(stopped, "tick 1;tick 2;drop 0;");
        Check.due("undo() of a run that was stopped", 1, stopped::undo);
        Check.due("time() then", Promise.oneSaved().time(), stopped::time);
    }

    // ---- scripts

    private static void commands() {
        dueRun("tick 1;tick 2;tick 3;", 3);
        dueRun("add 1 2 3;move 1 3 2;speed 1 2 3;drop 1;tick 1;", 5);
        dueFault("tick1;", 4);
        dueFault("add 1 23;", 8);
        dueFault("add 1 2 3 4;", 10);
        dueFault("tick;", 4);
        dueFault("tick 1", 6);
        dueFault("tick 1 tick 2;", 7);
        dueFault("tick\t1;", 4);
        dueFault("tick 1\t;", 6);
        dueFault("tick 1;\ttick 1;", 7);
        dueFault("tick 1;\n", 7);
        dueFault("drop 1 1;", 7);
        dueFault("tick 1 1;", 7);
        dueFault("add 1 1 ;", 8);
        dueFault("move 1 1;", 8);
        dueFault("speed 1 1;", 9);
        dueFault("1 tick;", 0);
        dueFault(";", 0);
        dueFault("tick 1;;", 7);
    }

    private static void numbers() {
        for (int n = -99; n <= 99; n++) {
            int value = n;
            SkipQuadtree t = new SkipQuadtree();
            t.add(5, 40, 41);
            boolean fine = 0 <= n && n <= 63;
            Check.due("run of move 5 " + n, fine ? 1 : 0, () -> Check.run(t, "move 5 " + value + " 0;"));
            Check.due("x behind it", fine ? n : 40, t.point(5, 1));
            boolean slow = -9 <= n && n <= 9;
            Check.due("run of speed 5 " + n, slow ? 1 : 0, () -> Check.run(t, "speed 5 0 " + value + ";"));
            Check.due("v behind it", slow ? n : 0, t.point(5, 4));
        }
        SkipQuadtree t = new SkipQuadtree();
        Check.due("zeros in front", 2, () -> Check.run(t, "add 00 07 09;tick 05;"));
        Check.due("y of 00", 9, t.point(0, 2));
        Check.due("minus zero", 2, () -> Check.run(t, "move -0 -00 1;speed 0 -09 -9;"));
        Check.due("x of -0", 0, t.point(0, 1));
        Check.due("setVelocity after speed", 99, t.setVelocity(0, 0, 0));
        dueFault("tick 123;", 7);
        dueFault("tick 001;", 7);
        dueFault("tick -123;", 8);
        dueFault("tick - 1;", 6);
        dueFault("tick --1;", 6);
        dueFault("tick 1-1;", 6);
        dueFault("tick 1-;", 6);
        dueFault("tick -;", 6);
        dueFault("tick +1;", 5);
        dueFault("add 1-2 3;", 5);
    }

    private static void spaces() {
        String[] texts = {"", " ", "     ", " tick 1;", "tick 1 ;", "tick    1    ;    ", " tick 1; tick 1 ; ",
            "   add   1   2   3   ;   drop   1   ;   "};
        int[] wants = {0, 0, 0, 1, 1, 1, 2, 2};
        for (int k = 0; k < texts.length; k++) {
            dueRun(texts[k], wants[k]);
        }
        dueFault("t ick 1;", 0);
        dueFault("tick 1 2;", 7);
        dueFault("tick - 1;", 6);
        dueFault(" ;", 1);
        dueFault("tick 1 ; ;", 9);
        dueFault("tick 1;     ;", 12);
    }

    private static void words() {
        SkipQuadtree t = new SkipQuadtree();
        SkipQuadtree want = new SkipQuadtree();
        String[] commands = {"add 5 6 7;", "speed 5 -2 3;", "tick 4;", "move 5 62 1;", "add 15 63 0;", "drop 5;"};
        for (int k = 0; k < commands.length; k++) {
            int number = k;
            Check.due("run of " + commands[k], 1, () -> Check.run(t, commands[number]));
            call(want, k);
            t.clearScript();
            Check.due("the digest behind " + commands[k], want.digest(), t.digest());
        }
        dueFault("remove 5;", 0);
        dueFault("velocity 5 1 1;", 0);
        dueFault("setvelocity 5 1 1;", 0);
        dueFault("scatter 0 1 1 1;", 0);
        dueFault("undo;", 0);
        dueFault("run;", 0);
        dueFault("Add 5 1 1;", 0);
        dueFault("adD 5 1 1;", 0);
    }

    private static void call(SkipQuadtree tree, int number) {
        switch (number) {
            case 0 -> tree.add(5, 6, 7);
            case 1 -> tree.setVelocity(5, -2, 3);
            case 2 -> tree.tick(4);
            case 3 -> tree.move(5, 62, 1);
            case 4 -> tree.add(15, 63, 0);
            default -> tree.remove(5);
        }
    }

    // ---- faults

    /** The fault of a script, or -1. */
    private static long faultOf(String text) {
        long answer = Check.run(new SkipQuadtree(), text);
        return answer <= MARK ? MARK - answer : -1;
    }

    /** What each of the 128 bytes does behind a beginning: it ends a script, can be gone on with, or is at fault. */
    private static void dueBytes(String front, String ends, String goesOn, int letters, int others) {
        for (char typed = 0; typed < 128; typed++) {
            int due = 'a' <= typed && typed <= 'z' ? letters : others;
            due = goesOn.indexOf(typed) >= 0 ? front.length() + 1 : due;
            due = ends.indexOf(typed) >= 0 ? -1 : due;
            Check.due("the fault of \"" + front + "\" and the byte " + (int) typed, due, faultOf(front + typed));
        }
    }

    private static void eachByte() {
        dueBytes("", " ", "", 0, 0);
        dueBytes("   ", " ", "", 3, 3);
        for (String word : new String[] {"add", "move", "drop", "speed", "tick"}) {
            dueBytes(word, "", " ", 0, word.length());
            dueBytes(word + " ", "", " -" + DIGITS, word.length() + 1, word.length() + 1);
        }
        dueBytes("tick -", "", DIGITS, 6, 6);
        dueBytes("tick 1", ";", " " + DIGITS, 6, 6);
        dueBytes("tick -1", ";", " " + DIGITS, 7, 7);
        dueBytes("drop 12", ";", " ", 7, 7);
        dueBytes("drop -12", ";", " ", 8, 8);
        dueBytes("tick 1 ", ";", " ", 7, 7);
        dueBytes("tick 1;", " ", "", 7, 7);
        dueBytes("tick 1; ", " ", "", 8, 8);
        for (String word : new String[] {"add", "move", "speed"}) {
            int length = word.length();
            dueBytes(word + " 1", "", " " + DIGITS, length + 2, length + 2);
            dueBytes(word + " 1 ", "", " -" + DIGITS, length + 3, length + 3);
            dueBytes(word + " 10", "", " ", length + 3, length + 3);
            dueBytes(word + " 1 2", "", " " + DIGITS, length + 4, length + 4);
            dueBytes(word + " 1 -20", "", " ", length + 6, length + 6);
            dueBytes(word + " 1 2 3", ";", " " + DIGITS, length + 6, length + 6);
            dueBytes(word + " 1 2 -30", ";", " ", length + 8, length + 8);
            dueBytes(word + " 1 2 3 ", ";", " ", length + 7, length + 7);
        }
    }

    /** Each beginning of a script ends too soon, but for those that end behind a command, or within a word. */
    private static void eachEnd() {
        String text = " add 1 -2 33 ;move  1 4 5; drop 1;speed 1 -9 9 ;  tick 50 ; ";
        for (int end = 0; end < text.length(); end++) {
            String front = text.substring(0, end);
            int start = end;
            while (start > 0 && Character.isLetter(front.charAt(start - 1))) {
                start--;
            }
            boolean withinWord = start < end && Character.isLetter(text.charAt(end));
            boolean done = front.isBlank() || front.trim().endsWith(";");
            Check.due("the fault of \"" + front + "\"", withinWord ? start : done ? -1 : end, faultOf(front));
        }
        Check.due("the fault of \"" + text + "\"", -1, faultOf(text));
    }

    private static void wordFaults() {
        dueFault("spin 1;", 0);
        dueFault("  spin 1;", 2);
        dueFault("tick 1; ticks 1;", 8);
        dueFault("tick 1;tic;", 7);
        dueFault("addd 1 1 1;", 0);
        dueFault("xdd 1 1 1;", 0);
        dueFault("axd 1 1 1;", 0);
        dueFault("adx 1 1 1;", 0);
        dueFault("ad 1 1 1;", 0);
        dueFault("dd 1 1 1;", 0);
        dueFault("dropp 1;", 0);
        dueFault("dro 1;", 0);
        dueFault("movee 1 1 1;", 0);
        dueFault("mov 1 1 1;", 0);
        dueFault("speeds 1 1 1;", 0);
        dueFault("spee 1 1 1;", 0);
        dueFault("ticktick 1;", 0);
        dueFault("tick 1;adddrop 1;", 7);
    }

    /** Of an unknown word and a byte behind it that could not stand there, the word's first byte is the fault. */
    private static void firstOfSeveralFaults() {
        for (String end : new String[] {"", " ", ";", "!", "A", "1", "-", "\0", "\177", "{", "`", " 1;", "  ;;"}) {
            dueFault("tick 1; ad" + end, 8);
            dueFault("zzz" + end, 0);
            dueFault("addd" + end, 0);
        }
        for (String later : new String[] {"", ";", "x", " x", "tick", "tick 1;", " ; ;", "add 1 2;"}) {
            dueFault("tick;" + later, 4);
            dueFault("tick ;" + later, 5);
            dueFault("tick -;" + later, 6);
            dueFault("tick 123;" + later, 7);
            dueFault("add 1;" + later, 5);
            dueFault("add 1 2;" + later, 7);
            dueFault("speed 1 2 ;" + later, 10);
            dueFault("tick 1,;" + later, 6);
            dueFault("tick 1;;" + later, 7);
        }
        dueFault("add!", 3);
        dueFault("addA 1 1;", 3);
        dueFault("add1 1 1;", 3);
        dueFault("add;", 3);
        dueFault("add", 3);
        dueFault("tick 1 x y", 7);
        dueFault("tick x; y", 5);
        dueFault("tick 1;x;;", 7);
        dueFault("tick 1;;x", 7);
        dueFault("a".repeat(41), 0);
    }

    // ---- promise 24

    private static void timeStands() {
        SkipQuadtree t = new SkipQuadtree();
        dueTick(t, 0);
        t.tick(50);
        dueTick(t, 50);
        t.tick(1);
        dueTick(t, 51);
        Check.run(t, "tick 3;tick 4;drop 0;tick 5;");
        dueTick(t, 58);
        t.undo();
        dueTick(t, 51);
        Check.told(() -> t.tick(0));
        Check.told(() -> t.tick(51));
        dueTick(t, 51);
        t.undo();
        t.undo();
        dueTick(t, 0);
        Promise.changesNothing("time()", SkipQuadtree::time);
    }

    private static void timeOfManyCalls() {
        SkipQuadtree t = Promise.crowd();
        Check.run(t, "tick 50;".repeat(15));
        int before = t.time();
        for (int k = 0; k < 100; k++) {
            Check.due("run() number " + k, 15, t.run());
        }
        dueTick(t, before + 100 * 15 * 50);
    }

    private static void lastCalls() {
        SkipQuadtree t = new SkipQuadtree();
        for (int call = 1; call <= 510; call++) {
            t.tick(50);
        }
        Check.due("undo(), call 511", 3, t.undo());
        Check.due("time(), call 512", 509 * 50, t.time());
        SkipQuadtree next = new SkipQuadtree();
        for (int id = 0; id < 24; id++) {
            next.add(id, id, id);
        }
        for (int call = 25; call <= 511; call++) {
            Check.due("next(0), call " + call, call - 25 < 24 ? call - 25 : -1, next.next(0));
        }
        Check.due("cursor(0, 3), call 512", 23, next.cursor(0, 3));
    }

    // ---- promise 25

    private static void undoStands() {
        SkipQuadtree t = new SkipQuadtree();
        for (int k = 0; k < 5; k++) {
            t.scatter(4 * k, 5, 64, k);
        }
        for (int k = 4; k >= 1; k--) {
            Check.due("undo() back to " + k, k - 1, t::undo);
            Check.same("nodes then", Promise.values(t).toString(), Promise.values(scattered(k)).toString());
        }
        t.tick(1);
        t.tick(2);
        Check.due("undo() of the later", 1, t::undo);
        t.tick(4);
        Check.due("undo() of the one after it", 1, t::undo);
        dueTick(t, 1);
        Check.due("undo() of the first", 0, t::undo);
        dueTick(t, 0);
    }

    private static SkipQuadtree scattered(int times) {
        SkipQuadtree t = new SkipQuadtree();
        for (int k = 0; k < times; k++) {
            t.scatter(4 * k, 5, 64, k);
        }
        return t;
    }

    private static void undoAnswers() {
        for (int saved = 1; saved <= 9; saved++) {
            SkipQuadtree t = new SkipQuadtree();
            for (int id = 0; id < saved; id++) {
                t.add(id, id, id);
            }
            for (int left = Math.min(saved, 4) - 1; left >= 0; left--) {
                Check.due("undo() that leaves " + left + " of " + saved, left, t::undo);
            }
            Check.same("undo() of a stack that is used up", Check.told(t::undo), Promise.BAD_STATE);
            Check.due("points then", Math.max(saved - 4, 0), t.level(0, 0));
        }
    }

    private static void undoOfNone() {
        Promise.outcome(SkipQuadtree::new, "undo() of a new tree", Promise.BAD_STATE, SkipQuadtree::undo);
        Promise.outcome(() -> usedUp(), "undo() of a stack that is used up", Promise.BAD_STATE, SkipQuadtree::undo);
        SkipQuadtree typed = new SkipQuadtree();
        Check.type(typed, "tick 1");
        typed.run();
        typed.clearScript();
        Check.same("undo() after calls that save nothing", Check.told(typed::undo), Promise.BAD_STATE);
        SkipQuadtree refused = new SkipQuadtree();
        Check.told(() -> refused.add(24, 0, 0));
        Check.told(() -> refused.tick(51));
        Check.told(() -> refused.next(4));
        Check.same("undo() after calls that were refused", Check.told(refused::undo), Promise.BAD_STATE);
    }

    private static SkipQuadtree usedUp() {
        SkipQuadtree t = Promise.busy();
        for (int k = 0; k < 4; k++) {
            t.undo();
        }
        return t;
    }

    private static void refusedCallsChangeNothing() {
        List<Promise.Ask> calls = List.of(t -> t.add(24, 0, 0), t -> t.add(20, 64, 0), t -> t.add(4, 0, 0),
            t -> t.move(-1, 0, 0), t -> t.move(4, 0, -1), t -> t.move(16, 0, 0), t -> t.remove(24), t -> t.remove(16),
            t -> t.setVelocity(24, 0, 0), t -> t.setVelocity(4, 10, 0), t -> t.setVelocity(16, 1, 1), t -> t.tick(0),
            t -> t.tick(51), t -> t.scatter(24, 1, 1, 1), t -> t.scatter(0, 25, 1, 1), t -> t.scatter(0, 24, 65, 1),
            t -> t.scatter(0, 24, 64, -1), t -> t.point(24, 0), t -> t.point(0, 6), t -> t.level(5, 0),
            t -> t.level(0, 5),
            t -> t.node(0, 24, 0), t -> t.node(0, 0, 6), t -> t.child(5, 0, 0), t -> t.child(0, 0, 4),
            t -> t.search(0, 64, true, 0), t -> t.search(0, 0, true, 3), t -> t.wouldTouch(24, 0, 0),
            t -> t.wouldTouch(4, 64, 0), t -> t.wouldTouch(16, 0, 0), t -> t.open(4, 0, 0), t -> t.open(0, 64, 0),
            t -> t.next(4), t -> t.next(-1), t -> t.cursor(4, 0), t -> t.cursor(0, 6), t -> t.nearest(0, 0, -1),
            t -> t.within(0, 0, 0, 64), t -> t.closest(3), t -> t.type(128), t -> t.type(-1));
        SkipQuadtree all = Promise.busy();
        for (int k = 0; k < calls.size(); k++) {
            Check.same("call " + k + " is refused", Promise.told(all, calls.get(k)).split("\\.")[0], "throws");
        }
        Promise.sameState("all refused calls, one after another", all, Promise.busy());
    }

    // ---- what is saved

    private static void wholeStateIsSaved() {
        SkipQuadtree t = Promise.crowd();
        String before = Promise.values(t) + " " + t.time();
        List<Promise.Ask> calls = List.of(s -> s.scatter(0, 24, 3, 5), s -> s.tick(9), s -> s.open(0, 60, 1),
            s -> s.remove(20));
        for (Promise.Ask call : calls) {
            call.of(t);
        }
        for (int k = 0; k < 4; k++) {
            t.undo();
        }
        Check.same("all values and time()", Promise.values(t) + " " + t.time(), before);
        for (int cursor = 0; cursor < 4; cursor++) {
            SkipQuadtree s = new SkipQuadtree();
            s.scatter(0, 5, 64, 8);
            s.open(cursor, 10 + cursor, 20 + cursor);
            s.next(cursor);
            String values = Promise.values(s).toString();
            s.next(cursor);
            s.open(cursor, 1, 2);
            s.undo();
            s.undo();
            Check.same("all values with cursor " + cursor, Promise.values(s).toString(), values);
        }
    }

    private static void scriptIsNotSaved() {
        SkipQuadtree t = new SkipQuadtree();
        Check.type(t, "tick 1;");
        t.add(0, 1, 1);
        Check.type(t, "tick 2;");
        Check.due("undo()", 0, t.undo());
        Check.due("run() of the whole script", 2, t.run());
        dueTick(t, 3);
        t.clearScript();
        Check.due("undo() of the run", 0, t.undo());
        Check.due("the script stays empty", 0, t.clearScript());
        Check.due("type into it", 1, t.type(' '));
    }

    private static void savesWithoutChange() {
        List<Promise.Ask> calls = List.of(s -> s.open(0, 0, 0), s -> s.next(0), s -> s.run());
        for (int k = 0; k < calls.size(); k++) {
            SkipQuadtree fresh = new SkipQuadtree();
            calls.get(k).of(fresh);
            Check.due("undo() of call " + k + " that changes nothing", 0, fresh::undo);
            Promise.sameState("call " + k + " and undo()", fresh, new SkipQuadtree());
        }
        SkipQuadtree one = new SkipQuadtree();
        one.add(5, 0, 0);
        one.move(5, 0, 0);
        one.setVelocity(5, 0, 0);
        one.scatter(5, 1, 1, 7);
        for (int left = 3; left > 0; left--) {
            Check.due("undo() that leaves " + left, left, one::undo);
            Check.due("point(5, 0)", 1, one.point(5, 0));
        }
        Check.due("undo() of the add", 0, one::undo);
        Check.due("point(5, 0)", 0, one.point(5, 0));
    }

    private static void othersSaveNothing() {
        Promise.savesNothing("type", t -> t.type(' '));
        Promise.savesNothing("clearScript()", SkipQuadtree::clearScript);
        Promise.savesNothing("run with a fault", t -> Check.run(t, "x"));
        Promise.savesNothing("time()", SkipQuadtree::time);
        Promise.savesNothing("digest()", SkipQuadtree::digest);
        Promise.savesNothing("wouldTouch(7, 1, 1)", t -> t.wouldTouch(7, 1, 1));
        Promise.savesNothing("a call that throws", t -> Check.told(() -> t.add(7, 1, 1)).length());
        SkipQuadtree t = Promise.busy();
        t.undo();
        t.undo();
        Check.due("undo() saves nothing itself", 1, t::undo);
    }

    private static void savedFromBefore() {
        SkipQuadtree t = new SkipQuadtree();
        t.add(3, 10, 10);
        t.move(3, 11, 12);
        t.setVelocity(3, 1, 2);
        t.tick(1);
        int[][] before = {{1, 11, 12, 1, 2}, {1, 11, 12, 0, 0}, {1, 10, 10, 0, 0}, {0, 0, 0, 0, 0}};
        for (int[] wants : before) {
            t.undo();
            for (int what = 0; what < 5; what++) {
                Check.due("point(3, " + what + ")", wants[what], t.point(3, what));
            }
        }
    }

    private static void fourSaves() {
        for (int calls = 1; calls <= 12; calls++) {
            SkipQuadtree t = new SkipQuadtree();
            for (int call = 0; call < calls; call++) {
                t.tick(call + 1);
            }
            for (int back = 1; back <= Math.min(calls, 4); back++) {
                Check.due("undo()", Math.min(calls, 4) - back, t::undo);
                dueTick(t, (calls - back) * (calls - back + 1) / 2);
            }
            Check.same("one undo() more", Check.told(t::undo), Promise.BAD_STATE);
        }
    }

    // ---- promise 26

    private static void dueDigest(String what, int saved, int length, SkipQuadtree t) {
        List<Long> values = new ArrayList<>(List.of((long) saved, (long) length, (long) t.time()));
        values.addAll(Promise.values(t));
        Check.due("digest() " + what, hash(values), t::digest);
    }

    private static long hash(List<Long> values) {
        BigInteger h = BigInteger.valueOf(19606);
        for (long value : values) {
            h = h.multiply(BigInteger.valueOf(31)).add(BigInteger.valueOf(value));
        }
        return h.longValue();
    }

    private static void digestOfStates() {
        dueDigest("of a busy tree", 4, 26, Promise.busy());
        dueDigest("of one saved state", 1, 26, Promise.oneSaved());
        dueDigest("of all points", 4, 26, Promise.crowd());
    }

    private static void digestOfNew() {
        List<Long> values = new ArrayList<>();
        addAll(values, 0, 0, 0);
        for (int height : new int[] {0, 1, 0, 2, 0, 1, 0, 3, 0, 1, 0, 2, 0, 1, 0, 4, 0, 1, 0, 2, 0, 1, 0, 3}) {
            addAll(values, 0, 0, 0, 0, 0, height);
        }
        for (int level = 0; level < 5; level++) {
            addAll(values, 0, 1, 0, 0, 0);
            addAll(values, 0, 0, 64, 0, 0, 0);
            addAll(values, -1, -1, -1, -1);
        }
        addAll(values, 0, 0);
        for (int cursor = 0; cursor < 4; cursor++) {
            addAll(values, 0, 0, -1, -1, 0, 0);
        }
        addAll(values, -1, -1, -1);
        Check.due("digest() of a new tree", hash(values), () -> new SkipQuadtree().digest());
    }

    private static void addAll(List<Long> values, int... more) {
        for (int value : more) {
            values.add((long) value);
        }
    }

    private static void digestOfOrder() {
        SkipQuadtree t = new SkipQuadtree();
        long fresh = t.digest();
        t.type('x');
        Check.same("digest() with another length", t.digest() == fresh ? "the same" : "another", "another");
        t.clearScript();
        Check.due("digest() as before", fresh, t.digest());
        t.tick(1);
        long later = t.digest();
        t.undo();
        t.open(0, 0, 0);
        Check.same("digest() with another time", t.digest() == later ? "the same" : "another", "another");
        t.undo();
        Check.due("digest() as before", fresh, t.digest());
        dueDigest("of a new tree", 0, 0, t);
    }

    private static void digestOfLevels() {
        SkipQuadtree t = new SkipQuadtree();
        for (int id = 0; id < 24; id++) {
            t.add(id, id, 0);
        }
        dueDigest("of 24 nodes in level 0", 4, 0, t);
        Check.type(t, "x".repeat(120));
        dueDigest("of a full script", 4, 120, t);
        t.scatter(0, 24, 1, 0);
        dueDigest("of points in one position", 4, 120, t);
        for (int saved = 3; saved >= 0; saved--) {
            t.undo();
            dueDigest("with " + saved + " saved states", saved, 120, t);
        }
    }

    private static void digestOfCursors() {
        SkipQuadtree t = new SkipQuadtree();
        t.scatter(0, 24, 64, 99);
        for (int cursor = 0; cursor < 4; cursor++) {
            t.open(cursor, 63 - cursor, 10 * cursor);
            for (int k = 0; k <= cursor; k++) {
                t.next(cursor);
            }
            dueDigest("with cursor " + cursor, cursor == 0 ? 3 : 4, 0, t);
        }
    }

    private static void digestChangesNothing() {
        Promise.changesNothing("digest()", SkipQuadtree::digest);
        SkipQuadtree t = Promise.crowd();
        Check.due("digest() again", t.digest(), t::digest);
        Check.due("digest() of the same calls", t.digest(), () -> Promise.crowd().digest());
    }
}

import java.util.ArrayList;
import java.util.List;
import java.util.function.Supplier;

/** Tests that are named by a promise and by the sentence of the document that each is about, and what they share. */
final class Promise {
    /** A test's name: its promise, and the sentence, or the part of one, that it would fail without. */
    record Name(int promise, String sentence) {
    }

    /** A call, or several, of which the last one's answer counts. */
    interface Ask {
        long of(SkipQuadtree tree);
    }

    interface AskWith {
        long of(SkipQuadtree tree, int value);
    }

    static final String NO_INDEX = "throws.IndexOutOfBoundsException";
    static final String BAD_ARGUMENT = "throws.IllegalArgumentException";
    static final String BAD_STATE = "throws.IllegalStateException";
    static final String FINE = "an answer";

    static final String ALL_EXCEPTIONS =
        "If several exceptions of a method apply, the one that is listed first is thrown.";
    static final String NONE_LAST = "NONE is returned only if no exception applies.";

    private static final List<Name> NAMES = new ArrayList<>();

    private Promise() {
    }

    static void test(int promise, String sentence, Runnable steps) {
        NAMES.add(new Name(promise, sentence));
        Check.entitle("promise " + promise + ", \"" + sentence + "\": ");
        Check.due("the test itself", 0, () -> {
            steps.run();
            return 0;
        });
        Check.entitle("");
    }

    static List<Name> names() {
        return NAMES;
    }

    // ---- trees to begin with

    /** The ids 4 to 15 exist, the others do not; two cursors are on their way, and the undo stack is full. */
    static SkipQuadtree busy() {
        SkipQuadtree tree = new SkipQuadtree();
        tree.scatter(4, 12, 64, 4711);
        tree.setVelocity(7, 5, -8);
        tree.tick(2);
        tree.open(1, 20, 30);
        tree.next(1);
        tree.next(0);
        Check.type(tree, "tick 3;speed 7 1 2;tick 4;");
        return tree;
    }

    /** As busy, three calls before; one state is saved. */
    static SkipQuadtree oneSaved() {
        SkipQuadtree tree = busy();
        tree.undo();
        tree.undo();
        tree.undo();
        return tree;
    }

    /** All ids exist, and the undo stack is full. */
    static SkipQuadtree crowd() {
        SkipQuadtree tree = busy();
        tree.scatter(16, 8, 16, 1);
        tree.scatter(0, 4, 64, 2);
        tree.setVelocity(20, -9, 9);
        tree.next(1);
        return tree;
    }

    /** All values of a digest behind the first three. */
    static List<Long> values(SkipQuadtree tree) {
        List<Long> values = new ArrayList<>();
        for (int k = 0; k < 24 * 6; k++) {
            values.add((long) tree.point(k / 6, k % 6));
        }
        for (int level = 0; level < 5; level++) {
            for (int what = 0; what < 5; what++) {
                values.add((long) tree.level(level, what));
            }
            addNodes(values, tree, level);
        }
        values.add((long) tree.worst(true));
        values.add((long) tree.worst(false));
        for (int k = 0; k < 4 * 6; k++) {
            values.add((long) tree.cursor(k / 6, k % 6));
        }
        for (int what = 0; what < 3; what++) {
            values.add((long) tree.closest(what));
        }
        return values;
    }

    private static void addNodes(List<Long> values, SkipQuadtree tree, int level) {
        int nodes = tree.level(level, 1);
        for (int index = 0; index < nodes; index++) {
            for (int what = 0; what < 6; what++) {
                values.add((long) tree.node(level, index, what));
            }
            for (int quadrant = 0; quadrant < 4; quadrant++) {
                values.add((long) tree.child(level, index, quadrant));
            }
        }
    }

    // ---- what a call does to the state

    static String told(SkipQuadtree tree, Ask call) {
        return Check.told(() -> call.of(tree));
    }

    /** Both answer alike, from here and from each state that undo brings back, and their scripts do the same. */
    static void sameState(String what, SkipQuadtree got, SkipQuadtree want) {
        for (int back = 0; back < 6; back++) {
            Check.due(what + ", then the digest " + back + " states back", want.digest(), got::digest);
            Check.same(what + ", then undo() number " + back, Check.told(got::undo), Check.told(want::undo));
        }
        Check.same(what + ", then run()", Check.told(got::run), Check.told(want::run));
        Check.due(what + ", then the digest after run()", want.digest(), got::digest);
        Check.due(what + ", then clearScript()", want.clearScript(), got::clearScript);
    }

    /** A call that answers and leaves everything as it is. */
    static void changesNothing(String what, Ask call) {
        SkipQuadtree tree = oneSaved();
        Check.same(what, answered(told(tree, call)), FINE);
        sameState(what, tree, oneSaved());
        SkipQuadtree full = crowd();
        Check.same(what + " with all points", answered(told(full, call)), FINE);
        sameState(what + " with all points", full, crowd());
    }

    private static String answered(String told) {
        return told.startsWith("throws.") ? told : FINE;
    }

    /** The call answers, or throws what is due, and changes nothing then. */
    static void outcome(Supplier<SkipQuadtree> setup, String what, String due, Ask call) {
        SkipQuadtree tree = setup.get();
        Check.same(what, answered(told(tree, call)), due);
        if (!due.equals(FINE)) {
            sameState(what, tree, setup.get());
        }
    }

    static void refused(String what, String due, Ask call) {
        outcome(Promise::busy, what, due, call);
    }

    /** The least and the greatest value are taken; those beyond, on either side, are refused. */
    static void range(Supplier<SkipQuadtree> setup, String what, int least, int greatest, String due, AskWith call) {
        for (int value : new int[] {least, greatest}) {
            outcome(setup, what + " " + value, FINE, tree -> call.of(tree, value));
        }
        for (int value : new int[] {Integer.MIN_VALUE, least - 1, greatest + 1, Integer.MAX_VALUE}) {
            outcome(setup, what + " " + value, due, tree -> call.of(tree, value));
        }
    }

    /** Undo brings back all that was before the call, with a full stack and with one that is not. */
    static void undoable(String what, Ask call) {
        SkipQuadtree tree = oneSaved();
        Check.same(what, answered(told(tree, call)), FINE);
        Check.due(what + ", then undo()", 1, tree::undo);
        sameState(what + " and undo()", tree, oneSaved());
        SkipQuadtree full = busy();
        Check.same(what + " with a full stack", answered(told(full, call)), FINE);
        Check.due(what + " with a full stack, then undo()", 3, full::undo);
        Check.same(what + " with a full stack, then all values", values(full).toString(), values(busy()).toString());
        Check.due(what + " with a full stack, then time()", busy().time(), full::time);
    }

    /** A call that is not undoable leaves the stack as it is, whatever it does otherwise. */
    static void savesNothing(String what, Ask call) {
        SkipQuadtree tree = oneSaved();
        Check.same(what, answered(told(tree, call)), FINE);
        Check.due(what + ", then undo()", 0, tree::undo);
    }

    /** The refusals of a call with an index, whose other argument goes from 0 on: a bad index comes first. */
    static void indexAndWhat(String name, int indices, int greatestWhat, IndexAsk call) {
        for (int index : new int[] {-1, 0, indices - 1, indices}) {
            for (int what : new int[] {-1, 0, greatestWhat, greatestWhat + 1}) {
                boolean bad = what < 0 || what > greatestWhat;
                String due = index < 0 || index >= indices ? NO_INDEX : bad ? BAD_ARGUMENT : FINE;
                outcome(Promise::busy, name + "(" + index + ", " + what + ")", due, tree -> call.of(tree, index, what));
            }
        }
    }

    interface IndexAsk {
        long of(SkipQuadtree tree, int index, int what);
    }

    /** The refusals of a call with an id and two more arguments, none of which may be its greatest value + 1. */
    static void idAndTwo(String name, int least, int greatest, int refusedId, IdAsk call) {
        for (int id : new int[] {-1, 4, 16, 24}) {
            for (int a : new int[] {least - 1, least, greatest, greatest + 1}) {
                for (int b : new int[] {least - 1, least, greatest, greatest + 1}) {
                    boolean bad = a < least || a > greatest || b < least || b > greatest;
                    String due = id < 0 || id > 23 ? NO_INDEX : bad ? BAD_ARGUMENT : id == refusedId ? BAD_STATE : FINE;
                    String what = name + "(" + id + ", " + a + ", " + b + ")";
                    outcome(Promise::busy, what, due, tree -> call.of(tree, id, a, b));
                }
            }
        }
    }

    interface IdAsk {
        long of(SkipQuadtree tree, int id, int a, int b);
    }
}

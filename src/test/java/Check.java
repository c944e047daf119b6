/** What the tests share: each wrong answer is printed and counted, and close() ends the test with its exit code. */
final class Check {
    /** A call of the class under test. */
    interface Call {
        long answer();
    }

    private static int checks = 0;
    private static int wrong = 0;
    private static String title = "";

    private Check() {
    }

    /** What stands in front of each wrong answer from here on. */
    static void entitle(String name) {
        title = name;
    }

    /** The answer of a call as a text: a number, or the name of what it throws behind "throws.". */
    static String told(Call call) {
        try {
            return Long.toString(call.answer());
        } catch (RuntimeException e) {
            return "throws." + e.getClass().getSimpleName();
        }
    }

    static void same(String what, String got, String want) {
        checks++;
        if (!got.equals(want)) {
            wrong++;
            System.out.println(title + what + " answered " + got + ", due is " + want);
        }
    }

    static void due(String what, long want, Call call) {
        same(what, told(call), Long.toString(want));
    }

    static void due(String what, long want, long got) {
        same(what, Long.toString(got), Long.toString(want));
    }

    /** Appends a text to the script. */
    static void type(SkipQuadtree tree, String text) {
        for (int k = 0; k < text.length(); k++) {
            tree.type(text.charAt(k));
        }
    }

    /** Runs a text as the whole script. */
    static long run(SkipQuadtree tree, String text) {
        tree.clearScript();
        type(tree, text);
        return tree.run();
    }

    static void close(String test) {
        System.out.println(test + ": " + checks + " checks, " + wrong + " wrong");
        if (wrong != 0) {
            System.exit(1);
        }
    }
}

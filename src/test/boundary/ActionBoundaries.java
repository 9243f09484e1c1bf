/** Promises 5 to 7: the actions, and what is recorded of them. */
final class ActionBoundaries {
    private ActionBoundaries() {
    }

    private static final int RECORDED = 8;

    // ---- promise 5

    static void setsInputs() {
        Sentences.says(5, "Sets the inputs.");
        OneReturns o = Made.with("-xy");
        o.inputs(Made.MAX, Made.MIN);
        Sentences.due("x", o.input(0), Made.MAX);
        Sentences.due("y", o.input(1), Made.MIN);
        Sentences.due("the run", o.run(), -1);
        o.inputs(Made.MIN, Made.MAX);
        Sentences.due("the new x", o.input(0), Made.MIN);
        Sentences.due("the new y", o.input(1), Made.MAX);
    }

    static void sameInputs() {
        Sentences.says(5, "Returns 1; STATE if both inputs have these values already.");
        OneReturns o = new OneReturns();
        Sentences.due("both as at first", o.inputs(0, 0), Made.STATE);
        Sentences.due("only x is new", o.inputs(1, 0), 1);
        Sentences.due("only y is new", o.inputs(1, 1), 1);
        Sentences.due("both are the same", o.inputs(1, 1), Made.STATE);
        Sentences.due("x as before, the other not", o.inputs(1, 2), 1);
        Sentences.due("they change places", o.inputs(2, 1), 1);
        Sentences.due("both are new", o.inputs(0, 0), 1);
        Sentences.due("they are the same again", o.inputs(0, 0), Made.STATE);
        Sentences.due("five are recorded", o.count(5), 5);
        o.undo();
        Sentences.due("the same after undo()", o.inputs(2, 1), Made.STATE);
    }

    // ---- promise 6

    static void times() {
        Sentences.says(6, "`n`: 1 to 60");
        for (int n : new int[] {1, 2, 59, 60}) {
            Sentences.due("shrinks(" + n + ")", Made.with("+12").shrinks(n), 1);
        }
        Sentences.says(6, "BAD if n is out of range");
        OneReturns o = Made.with("+12");
        for (int n : new int[] {0, -1, 61, Made.MIN, Made.MAX}) {
            Sentences.due("shrinks(" + n + ")", o.shrinks(n), Made.BAD);
        }
        Sentences.due("the program stays", Made.text(o), "+12");
        Sentences.due("nothing is recorded", o.count(5), 1);
    }

    static void asOftenAsPossible() {
        Sentences.says(6, "Simplifies the program n times, or as often as possible if that is less.");
        String sums = "+".repeat(29) + "0".repeat(30);
        OneReturns o = Made.with(sums);
        Sentences.due("one time less than possible", o.shrinks(28), 28);
        Sentences.due("the program then", Made.text(o), "+00");
        Sentences.due("the last time", o.shrinks(2), 1);
        Sentences.due("as often as possible", Made.with(sums).shrinks(29), 29);
        Sentences.due("one time more than possible", Made.with(sums).shrinks(30), 29);
        OneReturns most = Made.with(TextBoundaries.LONGEST);
        Sentences.due("the longest program", most.shrinks(60), 29);
        Sentences.due("what is left of it", Made.text(most), "0");
    }

    static void simplifiedHowOften() {
        Sentences.says(6, "Returns how often it was simplified");
        OneReturns o = Made.with("+1+1+1+12");
        Sentences.due("once", o.shrinks(1), 1);
        Sentences.due("three times, not four", o.shrinks(4), 3);
        Sentences.due("the program", Made.text(o), "6");
        Sentences.due("each call is one action", o.count(5), 3);
    }

    static void notAtAll() {
        Sentences.says(6, "STATE if it cannot be simplified at all.");
        OneReturns o = Made.with("+x1");
        Sentences.due("shrinks(1)", o.shrinks(1), Made.STATE);
        Sentences.due("shrinks(60)", o.shrinks(60), Made.STATE);
        Sentences.due("nothing is recorded", o.count(5), 1);
        OneReturns done = Made.with("+12");
        done.shrinks(1);
        Sentences.due("when it has been done", done.shrinks(1), Made.STATE);
        Sentences.due("only the first one is recorded", done.count(5), 2);
        Sentences.due("a new object", new OneReturns().shrinks(60), Made.STATE);
    }

    // ---- promise 7

    static void undoesTheLast() {
        Sentences.says(7, "Undoes the last recorded action, which is not recorded any more: the program and the inputs are as before it.");
        OneReturns o = Made.with("+1+12");
        o.inputs(3, 4);
        o.shrinks(2);
        Made.type(o, "x y");
        o.comes(5, 6);
        o.keep(0);
        o.run();
        Sentences.due("before", Made.seen(o), "4 3 4 0 0 1 0 0 1 3 3");
        o.undo();
        Sentences.due("shrinks(2) is undone", Made.seen(o), "+1+12 3 4 0 0 5 0 0 1 3 2");
        Sentences.due("it can be done again", o.next(0), 2);
        o.undo();
        Sentences.due("inputs(3, 4) is undone", Made.seen(o), "+1+12 0 0 0 0 5 0 0 1 3 1");
        o.undo();
        Sentences.due("reads() is undone, and the text is as it is", Made.seen(o), "0 0 0 0 0 1 0 0 1 3 0");
        Sentences.due("the image is as it is", o.back(0), 1);
        Sentences.due("its program", Made.text(o), "4");
    }

    static void functionsAreBack() {
        Sentences.says(7, "the program and the inputs are as before it.");
        OneReturns o = Made.with("@Faa!Fx", 5, 0);
        o.shrinks(60);
        Sentences.due("F is gone", o.function('F', 0), Made.NONE);
        o.undo();
        Sentences.due("F is back", o.function('F', 3), Made.END);
        Sentences.due("its call", o.last(2), 1);
        Sentences.due("the run", o.run(), 5);
        Sentences.due("its steps", o.cost(0), 4);
    }

    static void stillRecorded() {
        Sentences.says(7, "Returns the number of actions that are still recorded");
        OneReturns o = new OneReturns();
        for (int i = 1; i <= RECORDED; i++) {
            o.inputs(i, i);
        }
        for (int left = RECORDED - 1; left >= 0; left--) {
            Sentences.due("undo()", o.undo(), left);
            Sentences.due("count(5)", o.count(5), left);
            Sentences.due("x", o.input(0), left);
        }
        Sentences.says(7, "STATE if none is recorded.");
        Sentences.due("undo() again", o.undo(), Made.STATE);
        Sentences.due("x then", o.input(0), 0);
        Sentences.due("undo() of a new object", new OneReturns().undo(), Made.STATE);
        o.inputs(1, 1);
        Sentences.due("undo() of a new action", o.undo(), 0);
    }

    // ---- what is recorded

    static void latestEight() {
        Sentences.says(7, "Errors", "the latest 8 that did not return an error (or an error position) are recorded and can be undone.");
        for (int actions = 7; actions <= 20; actions++) {
            OneReturns o = new OneReturns();
            for (int i = 1; i <= actions; i++) {
                o.inputs(i, -i);
            }
            int kept = Math.min(actions, RECORDED);
            Sentences.due("recorded of " + actions, o.count(5), kept);
            for (int left = kept - 1; left >= 0; left--) {
                Sentences.due("left of " + actions, o.undo(), left);
            }
            Sentences.due("none left of " + actions, o.undo(), Made.STATE);
            Sentences.due("x before the oldest of " + actions, o.input(0), actions - kept);
            Sentences.due("y before the oldest of " + actions, o.input(1), kept - actions);
        }
    }

    static void recordAfterUndo() {
        Sentences.says(7, "Errors", "the latest 8 that did not return an error");
        OneReturns o = new OneReturns();
        for (int i = 1; i <= 10; i++) {
            o.inputs(i, 0);
        }
        for (int i = 0; i < 5; i++) {
            o.undo();
        }
        Sentences.due("x after five are undone", o.input(0), 5);
        Sentences.due("three are left", o.count(5), 3);
        for (int i = 21; i <= 26; i++) {
            o.inputs(i, 0);
        }
        Sentences.due("eight again, not nine", o.count(5), RECORDED);
        int[] earlier = {25, 24, 23, 22, 21, 5, 4, 3};
        for (int i = 0; i < RECORDED; i++) {
            Sentences.due("undo()", o.undo(), RECORDED - 1 - i);
            Sentences.due("x", o.input(0), earlier[i]);
        }
        Sentences.due("none is left", o.undo(), Made.STATE);
    }

    static void onlyActions() {
        Sentences.says(7, "Errors", "reads(), shrinks() and inputs() are actions");
        OneReturns o = new OneReturns();
        Made.type(o, "+12");
        Sentences.due("type() is none", o.count(5), 0);
        o.reads();
        Sentences.due("reads() is one", o.count(5), 1);
        o.inputs(1, 2);
        Sentences.due("inputs() is one", o.count(5), 2);
        o.shrinks(1);
        Sentences.due("shrinks() is one", o.count(5), 3);
        o.type('1');
        o.clear();
        o.comes(1, 2);
        o.fits();
        o.forget();
        o.keep(0);
        o.run();
        o.shortest(0);
        o.next(0);
        Sentences.due("nothing else is one", o.count(5), 3);
    }

    static void errorsAreNotRecorded() {
        Sentences.says(7, "Errors", "did not return an error (or an error position)");
        OneReturns o = Made.with("x");
        o.inputs(0, 0);
        o.shrinks(0);
        o.shrinks(1);
        o.reads();
        o.type('z');
        o.reads();
        Sentences.due("only the first reads()", o.count(5), 1);
        Sentences.due("undo()", o.undo(), 0);
        Sentences.due("the program", Made.text(o), "0");
    }

    static void sameProgramIsRecorded() {
        Sentences.says(7, "Errors", "reads(), shrinks() and inputs() are actions");
        OneReturns o = Made.with("7");
        o.type('7');
        o.reads();
        Sentences.due("reading the same program again", o.count(5), 2);
        Sentences.due("undo()", o.undo(), 1);
        Sentences.due("the program", Made.text(o), "7");
    }
}

/** Promises 23 to 26: images, totals and inputs. */
final class ImageBoundaries {
    private ImageBoundaries() {
    }

    // ---- promise 23

    static void keeps() {
        Sentences.says(23, "Keeps the program and the inputs in an image, in place of what it held.");
        OneReturns o = Made.with("+xy", Made.MIN, Made.MAX);
        o.keep(0);
        o.inputs(1, 2);
        o.keep(0);
        Made.type(o, "7");
        o.reads();
        o.keep(1);
        o.inputs(0, 0);
        Sentences.due("back(0)", o.back(0), 3);
        Sentences.due("what image 0 held last", Made.seen(o), "+xy 1 2 0 1023 3 0 0 0 0 0");
        Sentences.due("back(1)", o.back(1), 1);
        Sentences.due("what image 1 holds", Made.seen(o), "7 1 2 0 1023 1 0 0 0 0 0");
        o.keep(0);
        o.back(0);
        Sentences.due("a shorter program in place of a longer one", Made.text(o), "7");
    }

    static void keepsOnlyThese() {
        Sentences.says(23, "Keeps the program and the inputs in an image");
        OneReturns o = Made.with("x", 1, 2);
        o.type('1');
        o.comes(0, 5);
        o.keep(0);
        Sentences.due("nothing else changes", Made.seen(o), "x 1 2 0 32 1 0 0 1 1 2");
        o.forget();
        o.clear();
        o.back(0);
        Sentences.due("text and observations are not kept", Made.seen(o), "x 1 2 0 1023 1 0 0 0 0 0");
    }

    static void kept() {
        Sentences.says(23, "Returns the number of expressions of the program");
        Sentences.due("of a new object", new OneReturns().keep(0), 1);
        Sentences.due("of the longest program", Made.with(TextBoundaries.LONGEST).keep(1), 60);
        Sentences.due("of a program with names", Made.with("@Faa!F1").keep(0), 4);
        Sentences.says(23, "BAD if image is out of range.");
        OneReturns o = new OneReturns();
        for (int image : new int[] {-1, 2, Made.MIN, Made.MAX}) {
            Sentences.due("keep(" + image + ")", o.keep(image), Made.BAD);
        }
        Sentences.due("image 0 is empty", o.back(0), Made.STATE);
        Sentences.due("image 1 is empty", o.back(1), Made.STATE);
        Sentences.says(23, "`image`: 0 or 1");
        Sentences.due("keep(0)", o.keep(0), 1);
        Sentences.due("keep(1)", o.keep(1), 1);
    }

    // ---- promise 24

    static void restores() {
        Sentences.says(24, "Restores the program and the inputs of an image, which keeps them.");
        OneReturns o = Made.with(TextBoundaries.LONGEST, 3, -4);
        o.keep(1);
        for (int i = 0; i < 3; i++) {
            o.shrinks(60);
            o.inputs(i, i);
            Sentences.due("back(1)", o.back(1), 60);
            Sentences.due("the program", Made.text(o), TextBoundaries.LONGEST);
            Sentences.due("x", o.input(0), 3);
            Sentences.due("y", o.input(1), -4);
        }
    }

    static void noActionsThen() {
        Sentences.says(24, "No actions are recorded then.");
        OneReturns o = new OneReturns();
        o.keep(0);
        for (int i = 1; i <= 9; i++) {
            o.inputs(i, i);
        }
        o.back(0);
        Sentences.due("recorded", o.count(5), 0);
        Sentences.due("undo()", o.undo(), Made.STATE);
        o.inputs(5, 6);
        Sentences.due("a new action", o.count(5), 1);
        Sentences.due("undo() of it", o.undo(), 0);
        Sentences.due("x", o.input(0), 0);
        o.keep(1);
        o.back(1);
        Sentences.due("back() to the same", o.count(5), 0);
        for (int i = 1; i <= 9; i++) {
            o.inputs(i, i);
        }
        Sentences.due("eight new actions", o.count(5), 8);
    }

    static void backAnswers() {
        Sentences.says(24, "Returns the number of expressions of the program then");
        OneReturns o = Made.with("@Faa!F1");
        o.keep(0);
        o.shrinks(60);
        o.keep(1);
        Sentences.due("back(0)", o.back(0), 4);
        Sentences.due("back(1)", o.back(1), 1);
        Sentences.says(24, "BAD if image is out of range");
        for (int image : new int[] {-1, 2, Made.MIN, Made.MAX}) {
            Sentences.due("back(" + image + ")", o.back(image), Made.BAD);
        }
        Sentences.says(24, "`image`: 0 or 1");
        Sentences.due("back(0) then", o.back(0), 4);
        Sentences.due("back(1) then", o.back(1), 1);
        Sentences.says(24, "STATE if the image is empty.");
        OneReturns half = new OneReturns();
        Sentences.due("back(0) of a new object", half.back(0), Made.STATE);
        half.keep(1);
        Sentences.due("back(0), when only 1 is kept", half.back(0), Made.STATE);
        Sentences.due("back(1)", half.back(1), 1);
        half.keep(0);
        Sentences.due("back(0), when it is kept", half.back(0), 1);
    }

    // ---- promise 25

    static void totals() {
        Sentences.says(25, "0 for the expressions of the program, 1 for its functions, 2 for its jumps, 3 for the observations, 4 for the characters in the text buffer, 5 for the recorded actions");
        OneReturns none = new OneReturns();
        int[] least = {1, 0, 0, 0, 0, 0};
        for (int what = 0; what < least.length; what++) {
            Sentences.due("count(" + what + ") of a new object", none.count(what), least[what]);
        }
        OneReturns o = Made.with("@Aaa@Bb!Ab@Cc!Bc@Dd!Cd@Ee!De@Ff!Ef!F1");
        for (int i = 1; i <= 9; i++) {
            o.inputs(i, i);
        }
        for (int i = 0; i < 4; i++) {
            o.comes(i, i);
        }
        Made.type(o, "z".repeat(61));
        Sentences.says(25, "Returns that number");
        int[] most = {19, 6, 6, 3, 60, 8};
        for (int what = 0; what < most.length; what++) {
            Sentences.due("count(" + what + ") of a full object", o.count(what), most[what]);
        }
        Sentences.due("the most expressions", Made.with(TextBoundaries.LONGEST).count(0), 60);
        Sentences.says(25, "BAD if what is not 0 to 5.");
        for (int what : new int[] {-1, 6, Made.MIN, Made.MAX}) {
            Sentences.due("count(" + what + ")", o.count(what), Made.BAD);
        }
    }

    static void functionsAndJumps() {
        Sentences.says(25, "1 for its functions, 2 for its jumps");
        Sentences.due("functions, NOWHERE", Made.with("@Faa1").count(1), 1);
        Sentences.due("jumps, NOWHERE", Made.with("@Faa1").count(2), 0);
        Sentences.due("jumps, MANY", Made.with("@Faa+!F1!F2").count(2), 0);
        Sentences.due("jumps, END", Made.with("@Faa!F1").count(2), 1);
        Sentences.due("jumps, a call", Made.with("@Faa+1!F1").count(2), 1);
        OneReturns o = Made.with("@Faa!F1");
        o.shrinks(1);
        Sentences.due("functions when F is gone", o.count(1), 0);
        Sentences.due("jumps when F is gone", o.count(2), 0);
    }

    // ---- promise 26

    static void inputs() {
        Sentences.says(26, "`which`: 0 for x, 1 for y");
        OneReturns o = Made.with("7", Made.MIN, Made.MAX);
        Sentences.due("input(0)", o.input(0), Made.MIN);
        Sentences.due("input(1)", o.input(1), Made.MAX);
        Sentences.says(26, "Returns the input; 0 for any other which.");
        for (int which : new int[] {-1, 2, 'x', 'y', Made.MIN, Made.MAX}) {
            Sentences.due("input(" + which + ")", o.input(which), 0);
        }
        o.inputs(0, -1);
        Sentences.due("x, which is 0", o.input(0), 0);
        Sentences.due("y, which looks like BAD", o.input(1), -1);
    }
}

/** Promises 13 to 17: runs, their values and their counts. */
final class RunBoundaries {
    private RunBoundaries() {
    }

    /** 6x + 6 steps, 2x + 4 expressions open at most, x + 1 calls. */
    private static final String LOOP = "@Fa?a7!F-a1!Fx";
    /** 6(x + y) + 12 steps; with 24 and 24 just 300 steps, and 53 expressions open at most. */
    private static final String TWO_LOOPS = "@Fa?a7!F-a1+!Fx!Fy";
    private static final String ENDLESS = "@Fa!Fa!F1";

    private static void isLong(String program, int x, int y) {
        OneReturns o = Made.with(program, x, y);
        Sentences.due("run() of " + program, o.run(), 0);
        Sentences.due("status() of " + program, o.status(), Made.LONG);
        for (int i = 0; i < 3; i++) {
            Sentences.due("cost(" + i + ") of " + program, o.cost(i), Made.NONE);
            Sentences.due("frames(" + i + ") of " + program, o.frames(i), Made.NONE);
            Sentences.due("often(" + i + ") of " + program, o.often(i), Made.NONE);
        }
    }

    private static void isShort(String program, int x, int y, int value, int steps) {
        OneReturns o = Made.with(program, x, y);
        Sentences.due("run() of " + program, o.run(), value);
        Sentences.due("status() of " + program, o.status(), Made.OK);
        Sentences.due("cost(0) of " + program, o.cost(0), steps);
    }

    // ---- what is too long

    static void mostSteps() {
        Sentences.says(13, "Runs", "A run is too long, and has no value, if a 301st step would begin");
        isShort(TWO_LOOPS, 24, 24, 14, 300);
        isLong("@Ebb" + TWO_LOOPS, 24, 24);
        isShort("@Ebb" + TWO_LOOPS, 24, 23, 14, 295);
        isLong(TWO_LOOPS, 24, 25);
        isLong(TWO_LOOPS, 25, 24);
    }

    static void lastStepOfEachKind() {
        Sentences.says(13, "Runs", "if a 301st step would begin");
        // The last step is in a loop, then a name, then the body of a call.
        isShort("+1+1+1" + TWO_LOOPS, 23, 24, 17, 300);
        isLong("@Ebb+1+1+1" + TWO_LOOPS, 23, 24);
        isShort(":c" + TWO_LOOPS + "+c+c+c+c+cc", 23, 23, 6 * 14, 300);
        isLong(":c" + TWO_LOOPS + "@Ebb+c+c+c+c+cc", 23, 23);
        isShort(":c" + TWO_LOOPS + "@Ddd@Ebb+c+c+c!Ec", 23, 23, 4 * 14, 300);
        isLong(":c" + TWO_LOOPS + "@Cgg@Ddd@Ebb+c+c+c!Ec", 23, 23);
    }

    static void mostOpen() {
        Sentences.says(13, "Runs", "or more than 100 expressions would be open at the same time.");
        isShort(LOOP, 48, 0, 7, 294);
        isLong("+0" + LOOP, 48, 0);
        isShort("+0" + LOOP, 47, 0, 7, 290);
        isLong("@Ebb" + LOOP, 48, 0);
        // 300 steps would be few enough, but 102 would be open.
        isLong(LOOP, 49, 0);
        isLong(ENDLESS, 0, 0);
        isLong(LOOP, -1, 0);
    }

    static void openUntilTheValue() {
        Sentences.says(13, "Runs", "the expression is open until its value is there.");
        // 100 are open inside: each kind of expression around them is one more.
        String[][] around = {{"*1", ""}, {"-1", ""}, {"+", "1"}, {":b1", ""}, {":b", "b"}, {"?", "12"}, {"?0", "1"}, {"?10", ""}, {"@Ebb", ""}};
        for (String[] a : around) {
            isLong(a[0] + LOOP + a[1], 48, 0);
        }
        // A call is open while its argument is evaluated.
        isShort("@Ebb@Fa?a7!F-a1!E!Fx", 47, 0, 7, 291);
        isLong("+0@Ebb@Fa?a7!F-a1!E!Fx", 47, 0);
        // What is over is not open any more.
        isShort("@Ebb" + TWO_LOOPS, 23, 23, 14, 289);
    }

    // ---- promise 13

    static void longRun() {
        Sentences.says(13, "Returns its value; 0 if the run is too long (status() tells which).");
        OneReturns o = Made.with("@Fa?a0!F-a1!Fx", 3, 0);
        Sentences.due("a value that is 0", o.run(), 0);
        Sentences.due("its status", o.status(), Made.OK);
        o.inputs(-1, 0);
        Sentences.due("no value", o.run(), 0);
        Sentences.due("its status", o.status(), Made.LONG);
        OneReturns extreme = Made.with("x", Made.MIN, 0);
        Sentences.due("the least value", extreme.run(), Made.MIN);
        extreme.inputs(-9, 0);
        Sentences.due("a value that looks like NONE", extreme.run(), -9);
        Sentences.due("its status", extreme.status(), Made.OK);
    }

    static void lexicalScoping() {
        Sentences.says(13, "Runs", "all other names have in the body the values (or functions) that they have where the function is defined (lexical scoping, also in recursive calls).");
        value("@Fa?a7@Eb+ab+!F-a1!E0!Fx", 2, 10);
        value("@Fa@Eb?b1+a!F-b1?a0!Ea!Fx", 3, 6);
        value(":c5@Fa+ac:d9!Fd", 0, 14);
        // E is that of the outer activation: its a is 1, though F runs with 0 then.
        value("@Fa@Eba?a0+!E0!F0!F1", 0, 1);
        // F(2) calls its own E after F(1) and F(0) have made theirs.
        value("@Fa@Eb*ab?a1*!F-a1!E1!F3", 0, 6);
    }

    private static void value(String program, int x, int value) {
        Sentences.due("run() of " + program, Made.with(program, x, 0).run(), value);
    }

    // ---- promise 14

    static void statusOfTheLatest() {
        Sentences.says(14, "Returns the status of the latest call of run().");
        OneReturns o = Made.with(LOOP, -1, 0);
        o.run();
        o.inputs(1, 0);
        Sentences.due("the inputs are new", o.status(), Made.LONG);
        Sentences.due("cost(0)", o.cost(0), 12);
        Sentences.due("cost() is no run()", o.status(), Made.LONG);
        o.frames(0);
        o.often(0);
        o.comes(0, 7);
        o.fits();
        Sentences.due("nor are the others", o.status(), Made.LONG);
        o.undo();
        o.keep(0);
        o.back(0);
        Sentences.due("it is not restored", o.status(), Made.LONG);
        o.inputs(1, 0);
        o.run();
        Sentences.due("a run with a value", o.status(), Made.OK);
        o.inputs(-1, 0);
        o.cost(0);
        o.fits();
        Sentences.due("cost() and fits() of a long one", o.status(), Made.OK);
    }

    static void statusWithoutRun() {
        Sentences.says(14, "The constants:", "`OK = 0, LONG = 1`: Results of status().");
        Sentences.due("OK", OneReturns.OK, 0);
        Sentences.due("LONG", OneReturns.LONG, 1);
        Sentences.says(14, "Returns OK if the run had a value, or there was no call; LONG if it was too long.");
        OneReturns o = Made.with(ENDLESS);
        Sentences.due("status() of a new object", new OneReturns().status(), Made.OK);
        Sentences.due("there was no call", o.status(), Made.OK);
        o.run();
        Sentences.due("it was too long", o.status(), Made.LONG);
        Sentences.due("asked again", o.status(), Made.LONG);
        Made.type(o, "0");
        o.reads();
        o.run();
        Sentences.due("it had a value", o.status(), Made.OK);
    }

    // ---- promise 15

    static void costs() {
        Sentences.says(15, "0 for the number of steps, 1 for the number of calls, 2 for the greatest depth of a call (0 if there is none)");
        OneReturns none = new OneReturns();
        Sentences.due("steps of a new object", none.cost(0), 1);
        Sentences.due("calls of a new object", none.cost(1), 0);
        Sentences.due("depth of a new object", none.cost(2), 0);
        OneReturns uncalled = Made.with("@Faa?x7!F1");
        Sentences.due("depth, where no call is chosen", uncalled.cost(2), 0);
        Sentences.due("calls, where no call is chosen", uncalled.cost(1), 0);
        Sentences.says(15, "Returns that number");
        OneReturns deepest = Made.with(LOOP, 48, 0);
        Sentences.due("steps", deepest.cost(0), 294);
        Sentences.due("calls", deepest.cost(1), 49);
        Sentences.due("depth", deepest.cost(2), 49);
        OneReturns two = Made.with(TWO_LOOPS, 24, 24);
        Sentences.due("calls of two loops", two.cost(1), 50);
        Sentences.due("depth of two loops", two.cost(2), 25);
        OneReturns again = Made.with(LOOP, 48, 0);
        again.run();
        again.inputs(0, 0);
        int[] fewest = {6, 1, 1};
        for (int what = 0; what < fewest.length; what++) {
            Sentences.due("cost(" + what + ") after a longer run", again.cost(what), fewest[what]);
        }
        Made.type(again, "7");
        again.reads();
        Sentences.due("depth, where there is no call any more", again.cost(2), 0);
    }

    static void costErrors() {
        Sentences.says(15, "NONE if the run is too long");
        for (int what = 0; what <= 2; what++) {
            Sentences.due("cost(" + what + ")", Made.with(ENDLESS).cost(what), Made.NONE);
        }
        Sentences.says(15, "BAD if what is not 0 to 2.");
        for (int what : new int[] {-1, 3, Made.MIN, Made.MAX}) {
            Sentences.due("cost(" + what + ")", new OneReturns().cost(what), Made.BAD);
            Sentences.due("cost(" + what + "), too long", Made.with(ENDLESS).cost(what), Made.BAD);
        }
    }

    static void steps() {
        Sentences.says(15, "Runs", "Each time when the evaluation of an expression begins counts as a step (the first step is that of the whole program)");
        Sentences.due("a digit", Made.with("5").cost(0), 1);
        Sentences.due("an operator", Made.with("+12").cost(0), 3);
        Sentences.due("a choice", Made.with("?0+12 3").cost(0), 5);
        Sentences.due("a binding", Made.with(":a1a").cost(0), 3);
        Sentences.due("a definition", Made.with("@Fa+aa7").cost(0), 2);
        Sentences.due("a call", Made.with("@Fa+aa!F1").cost(0), 6);
    }

    static void depths() {
        Sentences.says(15, "Runs", "A call begins when its argument is there, and lasts until the value of the body is there; its depth is the number of calls that have begun and are not over, itself included.");
        depth("@Faa!F1", 1);
        depth("@Faa!F!F!F1", 1);
        depth("@Faa+!F1!F2", 1);
        depth("@Aaa@Bb!Ab!B1", 2);
        depth("@Aaa@Bb+!Ab!Ab!B!A1", 2);
    }

    private static void depth(String program, int due) {
        Sentences.due("cost(2) of " + program, Made.with(program).cost(2), due);
    }

    // ---- promise 16

    static void frameErrors() {
        Sentences.says(16, "`way`: how frames are counted, 0 to 2");
        for (int way = 0; way <= 2; way++) {
            Sentences.due("frames(" + way + ") of a new object", new OneReturns().frames(way), 0);
        }
        Sentences.says(16, "NONE if the run is too long");
        for (int way = 0; way <= 2; way++) {
            Sentences.due("frames(" + way + ")", Made.with(ENDLESS).frames(way), Made.NONE);
        }
        Sentences.says(16, "BAD if way is out of range.");
        for (int way : new int[] {-1, 3, Made.MIN, Made.MAX}) {
            Sentences.due("frames(" + way + ")", new OneReturns().frames(way), Made.BAD);
            Sentences.due("frames(" + way + "), too long", Made.with(ENDLESS).frames(way), Made.BAD);
        }
    }

    static void mostFrames() {
        Sentences.says(16, "Returns the greatest number of frames that there are at the same time in a run with the inputs.");
        OneReturns o = Made.with("@Fa?a1*a!F-a1!Fx", 5, 0);
        Sentences.says(16, "Returns that number");
        Sentences.due("way 0", o.frames(0), 6);
        Sentences.due("way 1", o.frames(1), 5);
        Sentences.due("way 2", o.frames(2), 5);
        o.inputs(-1, 0);
        Sentences.due("too long", o.frames(1), Made.NONE);
        o.inputs(1, 0);
        int[] after = {2, 1, 1};
        for (int way = 0; way < after.length; way++) {
            Sentences.due("way " + way + " after a run that was too long", o.frames(way), after[way]);
        }
        Sentences.due("the most", Made.with(LOOP, 48, 0).frames(0), 49);
    }

    // ---- promise 17

    static void oftenAnswers() {
        Sentences.says(17, "Returns how often; NONE if the run is too long; BAD if there is no such expression.");
        OneReturns o = Made.with(TWO_LOOPS, 24, 24);
        // 0 @ 1 ? 2 a 3 7 4 ! 5 - 6 a 7 1 8 + 9 ! 10 x 11 ! 12 y
        int[] due = {1, 50, 50, 2, 48, 48, 48, 48, 1, 1, 1, 1, 1};
        int sum = 0;
        for (int p = 0; p < due.length; p++) {
            Sentences.due("often(" + p + ")", o.often(p), due[p]);
            sum += due[p];
        }
        Sentences.due("all steps together", o.cost(0), sum);
        for (int p : new int[] {-1, 13, 60, Made.MIN, Made.MAX}) {
            Sentences.due("often(" + p + ")", o.often(p), Made.BAD);
        }
        o.inputs(25, 24);
        Sentences.due("often(0), too long", o.often(0), Made.NONE);
        Sentences.due("often(12), too long", o.often(12), Made.NONE);
        Sentences.due("often(13), too long", o.often(13), Made.BAD);
        Sentences.due("often(59) of the longest", Made.with(TextBoundaries.LONGEST).often(59), 1);
        Sentences.due("often(60) of the longest", Made.with(TextBoundaries.LONGEST).often(60), Made.BAD);
    }

    static void onlyTheChosen() {
        Sentences.says(17, "Runs", "of a choice, only the first expression and the chosen one");
        OneReturns o = Made.with("?x+12*34", 0, 0);
        int[] zero = {1, 1, 1, 1, 1, 0, 0, 0};
        int[] other = {1, 1, 0, 0, 0, 1, 1, 1};
        for (int p = 0; p < zero.length; p++) {
            Sentences.due("often(" + p + ") with 0", o.often(p), zero[p]);
        }
        o.inputs(Made.MIN, 0);
        for (int p = 0; p < other.length; p++) {
            Sentences.due("often(" + p + ") with another", o.often(p), other[p]);
        }
    }

    static void firstOfABinding() {
        Sentences.says(17, "Runs", "of a binding the first expression, then the second one");
        OneReturns o = Made.with(":a+12 7");
        for (int p = 0; p < 5; p++) {
            Sentences.due("often(" + p + "), though the name is not used", o.often(p), 1);
        }
        isLong("@Fa!Fa:b!F1 7", 0, 0);
    }

    static void argumentAndBody() {
        Sentences.says(17, "Runs", "of a call the argument, and then the body of the function, in which the parameter has the value of the argument");
        OneReturns o = Made.with("@Fa5!F+12");
        for (int p = 0; p < 6; p++) {
            Sentences.due("often(" + p + "), though the parameter is not used", o.often(p), 1);
        }
        isLong("@Fa!Fa@Eb7!E!F1", 0, 0);
        value("@Fa*aa!F-xy", 3, 9);
    }

    static void bodiesOnlyWhenCalled() {
        Sentences.says(17, "Runs", "of a definition only the second one");
        OneReturns o = Made.with("@Fa+aa?x7!F1");
        Sentences.due("the body, not called", o.often(1), 0);
        Sentences.due("a part of it", o.often(3), 0);
        o.inputs(1, 0);
        Sentences.due("the body, called", o.often(1), 1);
        Sentences.due("a part of it, called", o.often(3), 1);
    }
}

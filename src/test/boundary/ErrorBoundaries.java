import java.util.function.Supplier;
import java.util.function.ToIntFunction;

/** "Errors", for all promises that can refuse a call, and the 512 calls of an object. */
final class ErrorBoundaries {
    private ErrorBoundaries() {
    }

    private static final int CALLS = 512;

    /** Everything is full, but image 1, and the program cannot be simplified. */
    private static OneReturns full() {
        OneReturns o = Made.with("@Fa!Fa!F1");
        for (int i = 1; i <= 9; i++) {
            o.inputs(i, 10 - i);
            if (i == 3) {
                o.run();
                o.keep(0);
            }
            if (i == 5) {
                Made.type(o, "+xy");
                o.reads();
            }
        }
        for (int i = 0; i < 3; i++) {
            o.comes(i, 4 + i);
        }
        Made.type(o, "+".repeat(60));
        return o;
    }

    private static OneReturns fresh() {
        return new OneReturns();
    }

    private static void refused(Supplier<OneReturns> maker, String name, ToIntFunction<OneReturns> call, int answer) {
        OneReturns o = maker.get();
        Sentences.due(name, call.applyAsInt(o), answer);
        Sentences.due("everything after " + name, Made.everything(o), Made.everything(maker.get()));
    }

    static void changesNothing() {
        Sentences.says(2, "Errors", "A call that returns an error changes nothing.");
        refused(ErrorBoundaries::full, "type(-1)", o -> o.type(-1), Made.BAD);
        refused(ErrorBoundaries::full, "type(256)", o -> o.type(256), Made.BAD);
        refused(ErrorBoundaries::full, "type(49)", o -> o.type(49), Made.FULL);
        refused(ErrorBoundaries::fresh, "type(256) of a new object", o -> o.type(256), Made.BAD);
        Sentences.says(4, "Errors", "A call that returns an error changes nothing.");
        refused(ErrorBoundaries::full, "reads()", OneReturns::reads, -70);
        refused(ErrorBoundaries::fresh, "reads() of a new object", OneReturns::reads, -10);
        Sentences.says(5, "Errors", "A call that returns an error changes nothing.");
        refused(ErrorBoundaries::full, "inputs(9, 1)", o -> o.inputs(9, 1), Made.STATE);
        refused(ErrorBoundaries::fresh, "inputs(0, 0)", o -> o.inputs(0, 0), Made.STATE);
        Sentences.says(6, "Errors", "A call that returns an error changes nothing.");
        refused(ErrorBoundaries::full, "shrinks(1)", o -> o.shrinks(1), Made.STATE);
        refused(ErrorBoundaries::full, "shrinks(0)", o -> o.shrinks(0), Made.BAD);
        refused(ErrorBoundaries::fresh, "shrinks(61)", o -> o.shrinks(61), Made.BAD);
        Sentences.says(7, "Errors", "A call that returns an error changes nothing.");
        refused(ErrorBoundaries::fresh, "undo()", OneReturns::undo, Made.STATE);
        Sentences.says(20, "Errors", "A call that returns an error changes nothing.");
        refused(ErrorBoundaries::full, "comes(9, 9)", o -> o.comes(9, 9), Made.FULL);
        Sentences.says(23, "Errors", "A call that returns an error changes nothing.");
        refused(ErrorBoundaries::full, "keep(2)", o -> o.keep(2), Made.BAD);
        refused(ErrorBoundaries::full, "keep(-1)", o -> o.keep(-1), Made.BAD);
        Sentences.says(24, "Errors", "A call that returns an error changes nothing.");
        refused(ErrorBoundaries::full, "back(1)", o -> o.back(1), Made.STATE);
        refused(ErrorBoundaries::full, "back(2)", o -> o.back(2), Made.BAD);
        refused(ErrorBoundaries::full, "back(-1)", o -> o.back(-1), Made.BAD);
    }

    private static void question(int promise, String name, ToIntFunction<OneReturns> call) {
        Sentences.says(promise, "Errors", "A call that returns an error changes nothing.");
        refused(ErrorBoundaries::full, name, call, Made.BAD);
    }

    static void questionsChangeNothing() {
        question(8, "part(60, 0)", o -> o.part(60, 0));
        question(8, "part(0, 4)", o -> o.part(0, 4));
        question(9, "told(-2)", o -> o.told(-2));
        question(10, "uses(105)", o -> o.uses(105));
        question(11, "function(71, 0)", o -> o.function(71, 0));
        question(11, "function(65, 5)", o -> o.function(65, 5));
        question(12, "last(60)", o -> o.last(60));
        question(15, "cost(3)", o -> o.cost(3));
        question(16, "frames(3)", o -> o.frames(3));
        question(17, "often(60)", o -> o.often(60));
        question(18, "next(2)", o -> o.next(2));
        question(19, "shortest(2)", o -> o.shortest(2));
        question(25, "count(6)", o -> o.count(6));
    }

    static void meanings() {
        Sentences.says(8, "Errors", "BAD (an argument is out of its range, or there is no such expression), STATE (the call is not possible now), FULL (there is no room).");
        Sentences.due("BAD", OneReturns.BAD, -1);
        Sentences.due("STATE", OneReturns.STATE, -2);
        Sentences.due("FULL", OneReturns.FULL, -3);
        OneReturns o = full();
        Sentences.due("no such expression", o.part(3, 0), OneReturns.BAD);
        Sentences.due("not possible now", o.shrinks(1), OneReturns.STATE);
        Sentences.due("no room for a character", o.type('1'), OneReturns.FULL);
        Sentences.due("no room for an observation", o.comes(1, 1), OneReturns.FULL);
    }

    static void firstInThisOrder() {
        Sentences.says(2, "Errors", "If several of them apply, the first one in this order is returned.");
        OneReturns o = full();
        Sentences.due("type(256), BAD and FULL", o.type(256), Made.BAD);
        Sentences.due("type(-1), BAD and FULL", o.type(-1), Made.BAD);
        Sentences.says(6, "Errors", "If several of them apply, the first one in this order is returned.");
        Sentences.due("shrinks(0), BAD and STATE", o.shrinks(0), Made.BAD);
        Sentences.due("shrinks(61), BAD and STATE", o.shrinks(61), Made.BAD);
        Sentences.says(24, "Errors", "If several of them apply, the first one in this order is returned.");
        Sentences.due("back(2), where nothing is kept", o.back(2), Made.BAD);
        Sentences.due("back(-1), where nothing is kept", new OneReturns().back(-1), Made.BAD);
    }

    static void noneAfterErrors() {
        String words = "NONE (-9) stands for \"none\"; it is returned only if no error applies.";
        OneReturns o = Made.with("@Fa!Fa!F1");
        Sentences.says(8, "Errors", words);
        Sentences.due("NONE", OneReturns.NONE, -9);
        Sentences.due("part(0, 4)", o.part(0, 4), Made.BAD);
        Sentences.due("part(5, 2)", o.part(5, 2), Made.BAD);
        Sentences.says(9, "Errors", words);
        Sentences.due("told(-2)", o.told(-2), Made.BAD);
        Sentences.says(11, "Errors", words);
        Sentences.due("function('A', 5), which is not defined", o.function('A', 5), Made.BAD);
        Sentences.due("function('A', -1), which is not defined", o.function('A', -1), Made.BAD);
        Sentences.due("function('G', 0), which is not defined", o.function('G', 0), Made.BAD);
        Sentences.says(12, "Errors", words);
        Sentences.due("last(5), which is no call", o.last(5), Made.BAD);
        Sentences.says(15, "Errors", words);
        Sentences.due("cost(3), too long", o.cost(3), Made.BAD);
        Sentences.due("cost(-1), too long", o.cost(-1), Made.BAD);
        Sentences.says(16, "Errors", words);
        Sentences.due("frames(3), too long", o.frames(3), Made.BAD);
        Sentences.due("frames(-1), too long", o.frames(-1), Made.BAD);
        Sentences.says(17, "Errors", words);
        Sentences.due("often(5), too long", o.often(5), Made.BAD);
        Sentences.due("often(-1), too long", o.often(-1), Made.BAD);
        Sentences.says(18, "Errors", words);
        Sentences.due("next(2), cannot be simplified", o.next(2), Made.BAD);
        Sentences.due("next(-1), cannot be simplified", o.next(-1), Made.BAD);
    }

    private static void all(String name, ToIntFunction<OneReturns> call, OneReturns o, int used, int answer) {
        int others = 0;
        for (int i = used; i < CALLS; i++) {
            others += call.applyAsInt(o) == answer ? 0 : 1;
        }
        Sentences.due("how often " + name + " answered something else in 512 calls", others, 0);
    }

    static void calls512() {
        Sentences.says(1, "What it is", "An object is used for at most 512 calls after it has been made; what later calls answer is free.");
        all("type()", o -> o.type('1'), Made.typed("1".repeat(60)), 60, Made.FULL);
        all("clear()", OneReturns::clear, new OneReturns(), 0, 0);
        all("reads()", OneReturns::reads, Made.typed("+1"), 2, -12);
        all("run()", OneReturns::run, Made.with("@Fa?a7!F-a1!Fx", 48, 0), 16, 7);
        all("a run that is too long", o -> o.cost(0), Made.with("@Fa!Fa!F1"), 10, Made.NONE);
        all("shortest()", o -> o.shortest(0), Made.with(TextBoundaries.LONGEST), 61, 29);
        all("keep()", o -> o.keep(1), Made.with(TextBoundaries.LONGEST), 61, 60);
        OneReturns kept = Made.with(TextBoundaries.LONGEST);
        kept.keep(1);
        all("back()", o -> o.back(1), kept, 62, 60);
        OneReturns o = new OneReturns();
        for (int i = 1; i <= CALLS - 20; i++) {
            Sentences.due("inputs() as call " + i, o.inputs(i, 0), 1);
        }
        for (int left = 7; left >= 0; left--) {
            Sentences.due("undo() after many calls", o.undo(), left);
        }
        Sentences.due("x before the oldest one", o.input(0), CALLS - 28);
    }
}

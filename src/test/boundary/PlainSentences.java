/** The sentences of the document that name no boundary: what each promise is about, shown on one program. */
final class PlainSentences {
    private PlainSentences() {
    }

    /** Its expressions: 0 @, 1 ?, 2 a, 3 1, 4 *, 5 a, 6 y, 7 !, 8 :, 9 -, 10 x, 11 y, 12 b. */
    private static final String PROGRAM = "@Fa?a1*ay!F:b-xyb";
    private static final int SIZE = 13;

    private static OneReturns program(int x, int y) {
        return Made.with(PROGRAM, x, y);
    }

    private static void row(String what, int[] got, int... due) {
        for (int i = 0; i < due.length; i++) {
            Sentences.due(what + " " + i, got[i], due[i]);
        }
    }

    private static void value(String program, int x, int y, int value) {
        Sentences.due(program + " with " + x + " and " + y, Made.with(program, x, y).run(), value);
    }

    // ---- programs

    static void programs() {
        Sentences.says(4, "Programs", "A program is an expression.");
        String[] programs = {"7", "x", "+1y", "?012", ":a1a", "@Faa1", "@Faa!F1"};
        int[] sizes = {1, 1, 3, 4, 3, 3, 4};
        for (int i = 0; i < programs.length; i++) {
            Sentences.due("reading " + programs[i], Made.reads(programs[i]), sizes[i]);
        }
        Sentences.due("two expressions are no program", Made.reads("7x"), -11);
    }

    static void names() {
        Sentences.says(4, "Programs", "Letters a to h are names of values, A to F names of functions.");
        for (char c = '!'; c <= 255; c++) {
            boolean isValue = c >= 'a' && c <= 'h';
            boolean isFunction = c >= 'A' && c <= 'F';
            Sentences.due("a value " + (int) c, Made.reads(":" + c + "12"), isValue ? 3 : -11);
            Sentences.due("a function " + (int) c, Made.reads("@" + c + "a12"), isFunction ? 3 : -11);
        }
    }

    static void prefixNotation() {
        Sentences.says(13, "Programs", "Expressions, in prefix notation:");
        value("-*234", 0, 0, 2);
        value("*2-34", 0, 0, -2);
        value("--953", 0, 0, 1);
        value("-9-53", 0, 0, 7);
        Sentences.due("an operator between its operands", Made.reads("1+2"), -11);
    }

    static void definitions() {
        Sentences.says(13, "Programs", "the first expression is its body, the second one is the value of the whole.");
        value("@Fa+a1 7", 0, 0, 7);
        value("@Fa+a1!F7", 0, 0, 8);
        value("+@Fa+a1!F7 5", 0, 0, 13);
        Sentences.due("its body is a part of it", Made.with("@Fa+a1 7").part(1, 2), 0);
        Sentences.due("the second one is a part of it", Made.with("@Fa+a1 7").part(4, 2), 0);
    }

    static void calls() {
        Sentences.says(13, "Programs", "!FE: a call of the function F with the value of the expression as argument.");
        value("@Fa*a2!F+xy", 3, 4, 14);
        value("@Fa*a2!F!F!Fx", 3, 0, 24);
        value("@Fa*a2@Eb-b1+!Fx!Ey", 3, 4, 9);
    }

    /** Each sort of expression in each place where an E stands; the other places hold a 1. */
    static void everyE() {
        Sentences.says(4, "Programs", "Each E is an expression.");
        String[] forms = {"+EE", "-EE", "*EE", "?EEE", ":hEE", "@DgEE", "@DggE", "@Dgg!DE"};
        int[] others = {2, 2, 2, 3, 2, 2, 2, 3};
        String[] fillings = {"7", "x", "+12", "-12", "*12", "?012", ":a1a", "@Faa!F1"};
        int[] sizes = {1, 1, 3, 3, 3, 4, 3, 4};
        for (int f = 0; f < forms.length; f++) {
            String form = forms[f];
            for (int place = form.indexOf('E'); place < form.length(); place++) {
                for (int i = 0; i < fillings.length; i++) {
                    String program = form.substring(0, place) + fillings[i] + form.substring(place + 1);
                    Sentences.due("reading " + program, Made.reads(program.replace('E', '1')), others[f] + sizes[i]);
                }
            }
        }
    }

    static void constants() {
        Sentences.says(14, "The constants:", "`OK = 0, LONG = 1`: Results of status().");
        Sentences.due("OK", OneReturns.OK, 0);
        Sentences.due("LONG", OneReturns.LONG, 1);
    }

    static void returns() {
        Sentences.says(11, "Tail calls and returns", "For each function there is a return: NOWHERE, one return point, or MANY.");
        OneReturns o = Made.with("@Aaa@Bbb@Ccc@Ddd?x+!B1+!C2!C3!D4");
        Sentences.due("the return of A", o.function('A', 3), Made.NOWHERE);
        Sentences.due("the return of B", o.function('B', 3), 11);
        Sentences.due("the return of C", o.function('C', 3), Made.MANY);
        Sentences.due("the return of D", o.function('D', 3), Made.END);
    }

    // ---- promises

    static void newInputs() {
        Sentences.says(5, "`x`: the new x");
        OneReturns o = new OneReturns();
        o.inputs(12, -34);
        Sentences.due("x", o.input(0), 12);
        Sentences.says(5, "`y`: the new y");
        Sentences.due("y", o.input(1), -34);
    }

    private static int[] parts(OneReturns o, int what) {
        int[] found = new int[SIZE];
        for (int p = 0; p < SIZE; p++) {
            found[p] = o.part(p, what);
        }
        return found;
    }

    static void parts() {
        Sentences.says(8, "Returns a property of an expression.");
        Sentences.says(8, "`p`: number of the expression");
        OneReturns o = program(0, 0);
        Sentences.due("their number", o.count(0), SIZE);
        row("the letter of", parts(o, 0), '@', '?', 'a', '1', '*', 'a', 'y', '!', ':', '-', 'x', 'y', 'b');
        row("the expressions of", parts(o, 1), 13, 6, 1, 1, 3, 1, 1, 6, 5, 3, 1, 1, 1);
        row("what is around", parts(o, 2), Made.NONE, 0, 1, 1, 1, 4, 4, 0, 7, 8, 9, 9, 8);
        row("how many are around", parts(o, 3), 0, 1, 2, 2, 2, 3, 3, 1, 2, 3, 4, 4, 3);
    }

    static void function() {
        Sentences.says(11, "Returns a property of a function of the program.");
        OneReturns o = program(0, 0);
        int[] found = new int[5];
        for (int what = 0; what < found.length; what++) {
            found[what] = o.function('F', what);
        }
        row("property", found, 0, 1, 1, Made.END, 1);
    }

    static void tailCalls() {
        Sentences.says(12, "Tells whether an expression is a tail call.");
        Sentences.says(12, "`p`: number of the expression");
        OneReturns o = program(0, 0);
        for (int p = 0; p < SIZE; p++) {
            Sentences.due("last(" + p + ")", o.last(p), p == 7 ? 1 : Made.NONE);
        }
    }

    static void runs() {
        Sentences.says(13, "Runs the program with the inputs.");
        Sentences.due("5 times 2", program(7, 2).run(), 10);
        Sentences.due("1 for 0", program(2, 2).run(), 1);
        Sentences.says(15, "Returns a number about a run with the inputs.");
        OneReturns o = program(7, 2);
        row("cost", new int[] {o.cost(0), o.cost(1), o.cost(2)}, 12, 1, 1);
        o.inputs(2, 2);
        row("cost for 0", new int[] {o.cost(0), o.cost(1), o.cost(2)}, 10, 1, 1);
    }

    static void evaluations() {
        Sentences.says(17, "Returns how often an expression is evaluated in a run with the inputs.");
        Sentences.says(17, "`p`: number of the expression");
        OneReturns o = program(7, 2);
        for (int p = 0; p < SIZE; p++) {
            Sentences.due("often(" + p + ")", o.often(p), p == 3 ? 0 : 1);
        }
        o.inputs(2, 2);
        for (int p = 0; p < SIZE; p++) {
            Sentences.due("often(" + p + ") for 0", o.often(p), p >= 4 && p <= 6 ? 0 : 1);
        }
    }

    static void simplified() {
        Sentences.says(18, "Returns which expression would be simplified next.");
        OneReturns o = program(0, 0);
        row("next", new int[] {o.next(0), o.next(1)}, 0, 7);
        row("shortest", new int[] {o.shortest(0), o.shortest(1)}, 2, 10);
        o.shrinks(1);
        Sentences.due("the program", Made.text(o), ":a:b-xyb?a1*ay");
        row("next", new int[] {o.next(0), o.next(1)}, 1, 5);
        o.shrinks(1);
        Sentences.due("the program", Made.text(o), ":a-xy?a1*ay");
        row("next", new int[] {o.next(0), o.next(1)}, Made.NONE, Made.NONE);
    }

    static void observations() {
        Sentences.says(20, "Adds an observation:");
        OneReturns o = program(0, 0);
        Sentences.due("the first one", o.comes(2, 10), 1);
        Sentences.due("x was 7", o.fits(), 1 << 7);
        Sentences.due("the second one", o.comes(4, 12), 2);
        Sentences.due("x was 7, again", o.fits(), 1 << 7);
        Sentences.due("the third one", o.comes(4, 16), 3);
        Sentences.due("x was not 8 too", o.fits(), 0);
    }

    static void totals() {
        Sentences.says(25, "Returns a total.");
        OneReturns o = program(7, 2);
        o.comes(1, 1);
        Made.type(o, "xyz");
        int[] found = new int[6];
        for (int what = 0; what < found.length; what++) {
            found[what] = o.count(what);
        }
        row("count", found, SIZE, 1, 1, 1, 3, 2);
        Sentences.says(26, "Returns an input.");
        row("input", new int[] {o.input(0), o.input(1)}, 7, 2);
    }
}

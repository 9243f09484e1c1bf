/** For each promise ordinary inputs, the edges that the document names, and wrong inputs; all answers are worked out by hand. */
public final class PromiseTest {
    private static final int BAD = -1, STATE = -2, FULL = -3, NONE = -9;
    private static final int NOWHERE = -11, MANY = -12, END = -13;
    private static int wrong = 0;

    private static void due(String what, int got, int want) {
        if (got != want) {
            wrong++;
            System.out.println(what + " answered " + got + ", due is " + want);
        }
    }

    private static void due(String what, String got, String want) {
        if (!got.equals(want)) {
            wrong++;
            System.out.println(what + " is '" + got + "', due is '" + want + "'");
        }
    }

    private static void write(OneReturns o, String text) {
        for (int i = 0; i < text.length(); i++) {
            o.type(text.charAt(i));
        }
    }

    private static OneReturns with(String program) {
        OneReturns o = new OneReturns();
        write(o, program);
        if (o.reads() < 1) {
            wrong++;
            System.out.println("'" + program + "' was not read");
        }
        return o;
    }

    private static OneReturns with(String program, int x, int y) {
        OneReturns o = with(program);
        o.inputs(x, y);
        return o;
    }

    private static String text(OneReturns o) {
        StringBuilder s = new StringBuilder();
        for (int k = 0; k < o.told(-1); k++) {
            s.append((char) o.told(k));
        }
        return s.toString();
    }

    public static void main(String[] args) {
        newObject();
        type();
        clear();
        reads();
        readsChanges();
        inputs();
        shrinks();
        rules();
        undo();
        part();
        told();
        uses();
        function();
        returns();
        last();
        run();
        tooLong();
        status();
        cost();
        frames();
        often();
        next();
        shortest();
        observations();
        images();
        count();
        input();
        System.out.println(wrong == 0 ? "all promises hold" : wrong + " answers are wrong");
        if (wrong != 0) {
            System.exit(1);
        }
    }

    private static void newObject() {
        OneReturns o = new OneReturns();
        due("1 program", text(o), "0");
        int[] totals = {1, 0, 0, 0, 0, 0};
        for (int what = 0; what < totals.length; what++) {
            due("1 count(" + what + ")", o.count(what), totals[what]);
        }
        due("1 x", o.input(0), 0);
        due("1 y", o.input(1), 0);
        due("1 status", o.status(), 0);
        due("1 undo", o.undo(), STATE);
        due("1 image 0", o.back(0), STATE);
        due("1 image 1", o.back(1), STATE);
    }

    private static void type() {
        OneReturns o = new OneReturns();
        due("2 below", o.type(-1), BAD);
        due("2 above", o.type(256), BAD);
        due("2 lowest", o.type(0), 1);
        due("2 highest", o.type(255), 2);
        for (int i = 3; i <= 60; i++) {
            due("2 " + i, o.type('1'), i);
        }
        due("2 full", o.type('1'), FULL);
        due("2 bad before full", o.type(256), BAD);
        due("2 extreme", o.type(Integer.MIN_VALUE), BAD);
        due("2 stays", o.count(4), 60);
    }

    private static void clear() {
        OneReturns o = new OneReturns();
        due("3 empty", o.clear(), 0);
        write(o, "+1");
        due("3 two", o.clear(), 2);
        due("3 again", o.clear(), 0);
        due("3 typed anew", o.type('7'), 1);
        due("3 reads", o.reads(), 1);
        due("3 program", text(o), "7");
    }

    private static void readsTo(String typed, int answer) {
        OneReturns o = new OneReturns();
        write(o, typed);
        due("4 '" + typed + "'", o.reads(), answer);
        boolean isRead = answer > 0;
        due("4 program of '" + typed + "'", text(o), isRead ? typed.replace(" ", "") : "0");
        due("4 buffer after '" + typed + "'", o.count(4), isRead ? 0 : typed.length());
        due("4 record after '" + typed + "'", o.count(5), isRead ? 1 : 0);
    }

    private static void reads() {
        readsTo("", -10);
        readsTo("  ", -12);
        readsTo("0", 1);
        readsTo(" 9 ", 1);
        readsTo("x", 1);
        readsTo("y", 1);
        readsTo("00", -11);
        readsTo("0 z", -12);
        readsTo("z", -10);
        readsTo("i", -10);
        readsTo("A", -10);
        readsTo("a", -10);
        readsTo("\t1", -10);
        readsTo("\0", -10);
        readsTo("" + (char) 255, -10);
        readsTo("+1", -12);
        readsTo("+1 ", -13);
        readsTo("+12", 3);
        readsTo("?12", -13);
        readsTo("?1-23*45", 8);
        readsTo(":", -11);
        readsTo(":a1a", 3);
        readsTo(": a 1 a", 3);
        readsTo(":aaa", -12);
        readsTo(":a1:a2a", -14);
        readsTo(":a:a1aa", -13);
        readsTo(":a1+a:b2b", 7);
        readsTo(":a+:b1bba", -17);
        readsTo(":a:b1b b", -17);
        readsTo(":i1 1", -11);
        readsTo(":x1 1", -11);
        readsTo(":A1 1", -11);
        readsTo(":h1h", 3);
        readsTo("@", -11);
        readsTo("@F", -12);
        readsTo("@Fa", -13);
        readsTo("@aa11", -11);
        readsTo("@G", -11);
        readsTo("@FA11", -12);
        readsTo("@Fx11", -12);
        readsTo("@Fa1a", -14);
        readsTo("@Fa!Fa!F1", 5);
        readsTo("@ F a ! F a ! F 1", 5);
        readsTo("@Fa1@Fb22", -15);
        readsTo("@Fa1:a23", -15);
        readsTo("@Fa:a11 1", -14);
        readsTo("@Fa@Eb+ab!Ea!F1", 9);
        readsTo("@Fa@Eb+ab!Ea!E1", -23);
        readsTo("@Fa@Eb!Fb!Ea!F1", 8);
        readsTo("!", -11);
        readsTo("!F1", -11);
        readsTo("! F1", -12);
        readsTo("!a1", -11);
        readsTo("@Faa!a1", -15);
        readsTo("@Faa!E1", -15);
        readsTo("+!F1@Faa1", -12);
        readsTo("+@Fa a !F1 !F2", -22);
        readsTo("+".repeat(60), -70);
        readsTo("-".repeat(29) + "1".repeat(30) + " ", 59);
        readsTo("!" + "1".repeat(59), -11);
    }

    private static void readsChanges() {
        OneReturns o = with("+xy", 3, 4);
        o.comes(1, 2);
        o.keep(1);
        write(o, "*xy");
        due("4 inputs stay", o.reads(), 3);
        due("4 x stays", o.input(0), 3);
        due("4 y stays", o.input(1), 4);
        due("4 observations stay", o.count(3), 1);
        due("4 image stays", o.back(1), 3);
        due("4 image's program", text(o), "+xy");
        write(o, "+x");
        due("4 early end", o.reads(), -12);
        due("4 text stays", o.type('y'), 3);
        due("4 mended", o.reads(), 3);
        write(o, "?");
        due("4 a choice without parts", o.reads(), -11);
        o.clear();
        write(o, "@Fa+a");
        due("4 a definition without end", o.reads(), -15);
        o.clear();
        write(o, "a");
        due("4 names of an earlier text", o.reads(), -10);
        o.clear();
        write(o, "@Faa!F7");
        due("4 names are new in each text", o.reads(), 4);
    }

    private static void inputs() {
        OneReturns o = with("+xy");
        due("5 same", o.inputs(0, 0), STATE);
        due("5 not recorded", o.count(5), 1);
        due("5 x", o.inputs(1, 0), 1);
        due("5 y", o.inputs(1, 2), 1);
        due("5 same again", o.inputs(1, 2), STATE);
        due("5 swapped", o.inputs(2, 1), 1);
        due("5 recorded", o.count(5), 4);
        due("5 extreme", o.inputs(Integer.MAX_VALUE, 1), 1);
        due("5 overflow", o.run(), Integer.MIN_VALUE);
    }

    private static void shrinks() {
        OneReturns o = with("+1+1+1+12");
        due("6 too few", o.shrinks(0), BAD);
        due("6 negative", o.shrinks(-1), BAD);
        due("6 too many", o.shrinks(61), BAD);
        due("6 two", o.shrinks(2), 2);
        due("6 text", text(o), "+1+14");
        due("6 one record", o.count(5), 2);
        due("6 rest", o.shrinks(60), 2);
        due("6 end", text(o), "6");
        due("6 none", o.shrinks(1), STATE);
        due("6 bad before state", o.shrinks(61), BAD);
        due("6 records", o.count(5), 3);
        due("6 size", o.count(0), 1);
        due("6 undone", o.undo(), 2);
        due("6 undone to", text(o), "+1+14");
        OneReturns sum = with("+".repeat(29) + "0".repeat(30));
        due("6 longest", sum.shrinks(60), 29);
    }

    private static void rule(String before, int place, int rule, String after) {
        OneReturns o = with(before);
        due("rule place of " + before, o.next(0), place);
        due("rule of " + before, o.next(1), rule);
        due("shrinks " + before, o.shrinks(1), 1);
        due("shrunk " + before, text(o), after);
    }

    private static void noRule(String program) {
        OneReturns o = with(program);
        due("no place in " + program, o.next(0), NONE);
        due("no rule in " + program, o.next(1), NONE);
        due("no shrinking of " + program, o.shrinks(60), STATE);
        due("still " + program, text(o), program);
    }

    private static void rules() {
        rule("+12", 0, 1, "3");
        rule("+45", 0, 1, "9");
        rule("-55", 0, 1, "0");
        rule("*33", 0, 1, "9");
        rule("*+12+34", 1, 1, "*3+34");
        noRule("+55");
        noRule("-12");
        noRule("*52");
        noRule("+x1");
        noRule("*x0");
        noRule("*0x");
        rule("?0xy", 0, 2, "x");
        rule("?3xy", 0, 2, "y");
        rule("?0+12+34", 0, 2, "+12");
        noRule("?xy1");
        rule(":a+xy7", 0, 3, "7");
        rule(":a57", 0, 3, "7");
        rule(":a@Fbb37", 0, 3, "7");
        noRule(":a@Fbb+!F1!F27");
        rule(":a5a", 0, 4, "5");
        rule(":a5+aa", 0, 4, "+55");
        rule(":ax*a*ay", 0, 4, "*x*xy");
        rule(":ay@Fb+ab+!Fa!F2", 0, 4, "@Fb+yb+!Fy!F2");
        rule("@Fa:ba*bb+!F1!F2", 1, 4, "@Fa*aa+!F1!F2");
        rule(":a+xy*a2", 0, 5, "*+xy2");
        rule(":a@Fbb3+a1", 0, 5, "+@Fbb31");
        rule(":a*xx@Fb+ab+!F1!F2", 0, 5, "@Fb+*xxb+!F1!F2");
        noRule(":a+xy*aa");
        rule(":a@Fbb!F1+a2", 1, 7, ":a:b1b+a2");
        noRule(":a@Fb!Fb!F1+a2");
        rule("@Faa7", 0, 6, "7");
        rule("@Fa!Fa7", 0, 6, "7");
        // The outer one is called once, if only by one that is not called: the lower number comes first.
        rule("@Faa@Eb!Fb7", 0, 7, "@Eb:aba7");
        rule("@Eb:aba7", 0, 6, "7");
        rule("@Fa+a1*!Fx2", 0, 7, "*:ax+a12");
        rule("@Fa+a1@Eb*b!Fb+!E1!E2", 0, 7, "@Eb*b:ab+a1+!E1!E2");
        rule("@Faa@Ebb+!E1+!E2!F3", 0, 7, "@Ebb+!E1+!E2:a3a");
        noRule("@Fa!Fa!F1");
        noRule("@Faa+!F1!F2");
        noRule("@Faa!F!F1");
    }

    private static void undo() {
        OneReturns o = new OneReturns();
        for (int i = 1; i <= 10; i++) {
            due("7 inputs " + i, o.inputs(i, -i), 1);
        }
        due("7 at most eight", o.count(5), 8);
        for (int left = 7; left >= 0; left--) {
            due("7 left", o.undo(), left);
            due("7 x", o.input(0), left + 2);
            due("7 y", o.input(1), -left - 2);
        }
        due("7 none left", o.undo(), STATE);
        due("7 x stays", o.input(0), 2);
        write(o, "+12");
        o.reads();
        o.type('5');
        o.shrinks(1);
        o.inputs(9, 9);
        due("7 inputs undone", o.undo(), 2);
        due("7 only the inputs", text(o), "3");
        due("7 shrinks undone", o.undo(), 1);
        due("7 before shrinks", text(o), "+12");
        due("7 expressions before shrinks", o.count(0), 3);
        due("7 inputs then", o.input(0), 2);
        due("7 reads undone", o.undo(), 0);
        due("7 before reads", text(o), "0");
        due("7 the text is not undone", o.count(4), 1);
        due("7 parts are as before", o.count(0), 1);
    }

    private static void part() {
        OneReturns o = with(":a+1x@Fb?b2!Fa!Fa");
        // 0 :a, 1 +, 2 1, 3 x, 4 @F, 5 ?, 6 b, 7 2, 8 !F, 9 a, 10 !F, 11 a
        String letters = ":+1x@?b2!a!a";
        int[] sizes = {12, 3, 1, 1, 8, 5, 1, 1, 2, 1, 2, 1};
        int[] around = {NONE, 0, 1, 1, 0, 4, 5, 5, 5, 8, 4, 10};
        int[] depths = {0, 1, 2, 2, 1, 2, 3, 3, 3, 4, 2, 3};
        for (int p = 0; p < 12; p++) {
            due("8 letter of " + p, o.part(p, 0), letters.charAt(p));
            due("8 size of " + p, o.part(p, 1), sizes[p]);
            due("8 around " + p, o.part(p, 2), around[p]);
            due("8 depth of " + p, o.part(p, 3), depths[p]);
        }
        due("8 no such", o.part(12, 0), BAD);
        due("8 negative", o.part(-1, 0), BAD);
        due("8 what above", o.part(0, 4), BAD);
        due("8 what below", o.part(0, -1), BAD);
        due("8 extreme", o.part(Integer.MAX_VALUE, Integer.MIN_VALUE), BAD);
    }

    private static void told() {
        OneReturns o = with(" @ F a + a 1 ! F x ");
        due("9 text", text(o), "@Fa+a1!Fx");
        due("9 length", o.told(-1), 9);
        due("9 first", o.told(0), '@');
        due("9 last", o.told(8), 'x');
        due("9 after", o.told(9), NONE);
        due("9 far after", o.told(Integer.MAX_VALUE), NONE);
        due("9 before", o.told(-2), BAD);
        due("9 far before", o.told(Integer.MIN_VALUE), BAD);
    }

    private static void uses() {
        OneReturns o = with(":a1@Fb+a*bb+!Fa+xy");
        due("10 a", o.uses('a'), 2);
        due("10 b", o.uses('b'), 2);
        due("10 h", o.uses('h'), 0);
        due("10 x", o.uses('x'), 1);
        due("10 y", o.uses('y'), 1);
        due("10 i", o.uses('i'), BAD);
        due("10 `", o.uses('`'), BAD);
        due("10 w", o.uses('w'), BAD);
        due("10 z", o.uses('z'), BAD);
        due("10 F", o.uses('F'), BAD);
        due("10 1", o.uses('1'), BAD);
        due("10 introduced only", with(":a12").uses('a'), 0);
    }

    private static void function() {
        OneReturns o = with("+1@Fa?ay!F-a1+1!Fx");
        // 0 +, 1 1, 2 @F, 3 ?, 4 a, 5 y, 6 !F, 7 -, 8 a, 9 1, 10 +, 11 1, 12 !F, 13 x
        int[] properties = {2, 2, 1, 12, 1};
        for (int what = 0; what < properties.length; what++) {
            due("11 F " + what, o.function('F', what), properties[what]);
            due("11 A " + what, o.function('A', what), NONE);
        }
        due("11 what above", o.function('F', 5), BAD);
        due("11 what below", o.function('F', -1), BAD);
        due("11 bad before none", o.function('A', 5), BAD);
        due("11 letter above", o.function('G', 0), BAD);
        due("11 letter below", o.function('@', 0), BAD);
        due("11 value", o.function('a', 0), BAD);
    }

    private static void returnIs(String program, char function, int point) {
        OneReturns o = with(program);
        due("11 return of " + function + " in " + program, o.function(function, 3), point);
        due("11 jump " + function + " in " + program, o.function(function, 4), point == NOWHERE || point == MANY ? 0 : 1);
    }

    private static void returns() {
        returnIs("@Faa7", 'F', NOWHERE);
        returnIs("@Fa!Fa7", 'F', NOWHERE);
        returnIs("@Fa+1!Fa7", 'F', 3);
        returnIs("@Faa!Fx", 'F', END);
        returnIs("@Faa?x!F1!F2", 'F', END);
        returnIs("@Faa:b!F1!F2", 'F', MANY);
        returnIs("@Faa+!F1!F2", 'F', MANY);
        returnIs("@Faa+1!F2", 'F', 4);
        returnIs("@Faa!F!F2", 'F', MANY);
        returnIs("+1@Faa!Fx", 'F', 4);
        returnIs("@Fa+!Fa1!Fx", 'F', MANY);
        returnIs("@Fa?a1!F-a1!Fx", 'F', END);
        // A is called only in tail position in B's body: it returns where B returns.
        returnIs("@Aaa@Bb!Ab+!B12", 'A', 6);
        returnIs("@Aaa@Bb!Ab+!B12", 'B', 6);
        returnIs("@Aaa@Bb!Ab+!B1!B2", 'A', MANY);
        returnIs("@Aaa@Bb!Ab!B!A1", 'A', MANY);
        returnIs("@Aaa@Bb!Ab!B!A1", 'B', END);
        returnIs("@Aaa@Bb!Ab?x!A1!B1", 'A', END);
        // The body of a definition is a place of its own, wherever the definition stands.
        returnIs("@Aaa+1@Bb!Ab7", 'A', NOWHERE);
        // 0 @A 1 a 2 @B 3 @C 4 !A 5 c 6 !C 7 b 8 !B 9 1: A returns with C, C with B, B at the end.
        returnIs("@Aaa@Bb@Cc!Ac!Cb!B1", 'A', END);
        OneReturns o = with("@Aaa@Bb!Ab+!B12");
        due("25 functions", o.count(1), 2);
        due("25 jumps", o.count(2), 2);
        due("25 no jumps", with("@Aaa@Bb!Ab+!B1!B2").count(2), 0);
    }

    private static void last() {
        OneReturns o = with("@Fa?a+1!Fa!Fa:b!F1?b!F2@Ecc!E3");
        // 0 @F 1 ? 2 a 3 + 4 1 5 !F 6 a 7 !F 8 a 9 :b 10 !F 11 1 12 ? 13 b 14 !F 15 2 16 @E 17 c 18 !E 19 3
        int[] answers = {NONE, NONE, NONE, NONE, NONE, 0, NONE, 1, NONE, NONE, 0, NONE, NONE, NONE, 1, NONE, NONE, NONE, 1, NONE};
        for (int p = 0; p < answers.length; p++) {
            due("12 last(" + p + ")", o.last(p), answers[p]);
        }
        due("12 above", o.last(20), BAD);
        due("12 below", o.last(-1), BAD);
        due("12 tail calls of F", o.function('F', 2), 2);
        due("12 first of a choice", with("@Faa?!F112").last(3), 0);
        due("12 argument", with("@Faa!F!F1").last(3), 0);
        due("12 outer call", with("@Faa!F!F1").last(2), 1);
    }

    private static void value(String program, int x, int y, int value) {
        OneReturns o = with(program, x, y);
        due("13 " + program, o.run(), value);
        due("13 status of " + program, o.status(), 0);
    }

    private static void run() {
        value("7", 1, 2, 7);
        value("-xy", 3, 8, -5);
        value("*xx", 65536, 0, 0);
        value("+xy", Integer.MIN_VALUE, -1, Integer.MAX_VALUE);
        value("?x12", 0, 0, 1);
        value("?x12", -5, 0, 2);
        value(":a+xy*aa", 1, 2, 9);
        value("@Fa?a1*a!F-a1!Fx", 5, 0, 120);
        value("+1@Faa!F2", 0, 0, 3);
        value("*2:a3+a1", 0, 0, 8);
        value("-9?x5 6", 0, 0, 4);
        value("--951", 0, 0, 3);
        value("-9-51", 0, 0, 5);
        value(":a1@Fb+ab:c5!Fc", 0, 0, 6);
        // The inner function belongs to its own activation of the outer one, also after a deeper one has ended.
        value("@Fa?a7@Eb+ab+!F-a1!E0!Fx", 2, 0, 10);
        // The inner function calls the outer one, whose parameter is another one then.
        value("@Fa@Eb?b1+a!F-b1?a0!Ea!Fx", 3, 0, 6);
        // Two functions that call one another.
        value("@Aa@Bb?b0!A-b1?a1!B-a1!Ax", 6, 0, 1);
        value("@Aa@Bb?b0!A-b1?a1!B-a1!Ax", 7, 0, 0);
    }

    private static void tooLong() {
        // 6x + 6 steps; 2x + 4 expressions are open at most.
        String loop = "@Fa?a7!F-a1!Fx";
        OneReturns o = with(loop, 48, 0);
        due("13 100 are open", o.run(), 7);
        due("15 steps then", o.cost(0), 294);
        o.inputs(49, 0);
        due("13 102 would be open", o.run(), 0);
        due("14 too long", o.status(), 1);
        OneReturns wrapped = with("+0" + loop, 48, 0);
        due("13 101 would be open", wrapped.run(), 0);
        due("14 too long, wrapped", wrapped.status(), 1);
        wrapped.inputs(47, 0);
        due("13 99 are open", wrapped.run(), 7);
        due("14 fine, wrapped", wrapped.status(), 0);
        String wide = "@Fa?a7+!F-a1!F-a1" + "+1".repeat(8) + "++!Fx!Fy!F1";
        OneReturns full = with(wide, 4, 2);
        due("15 the 300th step", full.cost(0), 300);
        due("13 value after 300 steps", full.run(), 8 + 16 * 7 + 4 * 7 + 2 * 7);
        due("14 status after 300 steps", full.status(), 0);
        OneReturns over = with("@Ebb" + wide, 4, 2);
        due("13 a 301st step", over.run(), 0);
        due("14 status of a 301st step", over.status(), 1);
        due("15 cost of a 301st step", over.cost(0), NONE);
        due("13 endless", with("@Fa!Fa!F1").run(), 0);
    }

    private static void status() {
        OneReturns o = with("@Fa?a7!F-a1!Fx", -1, 0);
        due("14 no call", o.status(), 0);
        due("14 cost is no call", o.cost(0), NONE);
        due("14 still none", o.status(), 0);
        due("14 run", o.run(), 0);
        due("14 long", o.status(), 1);
        o.inputs(1, 0);
        due("14 of the latest call", o.status(), 1);
        due("14 short cost", o.cost(0), 12);
        due("14 still of the latest call", o.status(), 1);
        due("14 run again", o.run(), 7);
        due("14 fine", o.status(), 0);
        o.inputs(-1, 0);
        o.frames(0);
        o.often(0);
        o.comes(0, 0);
        o.fits();
        due("14 only run counts", o.status(), 0);
    }

    private static void cost() {
        OneReturns o = with("@Faa+!F1!F!F2");
        // 0 @ 1 a 2 + 3 !F 4 1 5 !F 6 !F 7 2; the inner call is over before the outer one begins.
        due("15 steps", o.cost(0), 10);
        due("15 calls", o.cost(1), 3);
        due("15 depth", o.cost(2), 1);
        due("15 above", o.cost(3), BAD);
        due("15 below", o.cost(-1), BAD);
        OneReturns deep = with("@Fa?a7!F-a1!Fx", 4, 0);
        due("15 deep steps", deep.cost(0), 30);
        due("15 deep calls", deep.cost(1), 5);
        due("15 deep depth", deep.cost(2), 5);
        deep.inputs(-1, 0);
        for (int what = 0; what < 3; what++) {
            due("15 long " + what, deep.cost(what), NONE);
        }
        due("15 bad before none", deep.cost(3), BAD);
        due("15 no call", with("7").cost(2), 0);
        due("15 not chosen", with("?x12").cost(0), 3);
    }

    private static void framesAre(String program, int x, int way0, int way1, int way2) {
        OneReturns o = with(program, x, 0);
        due("16 way 0 of " + program, o.frames(0), way0);
        due("16 way 1 of " + program, o.frames(1), way1);
        due("16 way 2 of " + program, o.frames(2), way2);
    }

    private static void frames() {
        framesAre("7", 1, 0, 0, 0);
        framesAre("@Fa?a1*a!F-a1!Fx", 5, 6, 5, 5);
        framesAre("@Fa?a7!F-a1+1!Fx", 7, 8, 1, 0);
        framesAre("@Fa?a7!F-a1!Fx", 7, 8, 0, 0);
        framesAre("@Faa+!F1!F2", 0, 1, 1, 1);
        // B is a jump, A is none: its calls inside B's body are to two points.
        framesAre("@Aaa@Bb+!Ab!A2+1!Bx", 0, 2, 2, 1);
        OneReturns fewer = with("@Fa?a1*a!F-a1!Fx", 5, 0);
        due("16 six", fewer.frames(0), 6);
        fewer.inputs(1, 0);
        due("16 fewer in a later run", fewer.frames(0), 2);
        fewer.inputs(-1, 0);
        due("16 none in a long run", fewer.frames(1), NONE);
        fewer.inputs(2, 0);
        due("16 after a long run", fewer.frames(1), 2);
        for (int i = 0; i < 200; i++) {
            due("13 run again", fewer.run(), 2);
        }
        OneReturns o = with("@Fa!Fa!F1");
        due("16 long", o.frames(2), NONE);
        due("16 above", o.frames(3), BAD);
        due("16 below", o.frames(-1), BAD);
    }

    private static void often() {
        OneReturns o = with("@Fa?a7!F-a1!Fx", 2, 0);
        // 0 @ 1 ? 2 a 3 7 4 !F 5 - 6 a 7 1 8 !F 9 x
        int[] times = {1, 3, 3, 1, 2, 2, 2, 2, 1, 1};
        for (int p = 0; p < times.length; p++) {
            due("17 often(" + p + ")", o.often(p), times[p]);
        }
        due("17 above", o.often(10), BAD);
        due("17 below", o.often(-1), BAD);
        o.inputs(-1, 0);
        due("17 long", o.often(0), NONE);
        due("17 bad before none", o.often(10), BAD);
        due("17 not chosen", with("?x12").often(3), 0);
        due("17 not called", with("@Faa7").often(1), 0);
    }

    private static void next() {
        OneReturns o = with("*x?1+12-31");
        // 0 * 1 x 2 ? 3 1 4 + 5 1 6 2 7 - 8 3 9 1
        due("18 place", o.next(0), 2);
        due("18 rule", o.next(1), 2);
        due("18 above", o.next(2), BAD);
        due("18 below", o.next(-1), BAD);
        due("18 changes nothing", text(o), "*x?1+12-31");
        due("18 records nothing", o.count(5), 1);
        o.shrinks(1);
        due("18 numbered anew", o.next(0), 2);
        due("18 the next rule", o.next(1), 1);
        o.shrinks(1);
        due("18 none", o.next(0), NONE);
        due("18 no rule", o.next(1), NONE);
        due("18 bad before none", o.next(2), BAD);
    }

    private static void shortest() {
        OneReturns o = with("@Fa+a1*!Fx2");
        // *:ax+a12, then *+x12
        due("19 times", o.shortest(0), 2);
        due("19 expressions", o.shortest(1), 5);
        due("19 above", o.shortest(2), BAD);
        due("19 below", o.shortest(-1), BAD);
        due("19 changes nothing", text(o), "@Fa+a1*!Fx2");
        due("19 records nothing", o.count(5), 1);
        due("19 shrinks so often", o.shrinks(60), 2);
        due("19 text", text(o), "*+x12");
        due("19 none", o.shortest(0), 0);
        due("19 all expressions", o.shortest(1), 5);
    }

    private static void observations() {
        OneReturns o = with("*xx", 100, 200);
        due("22 nothing known", o.fits(), 1023);
        due("20 first", o.comes(5, 9), 1);
        due("22 one", o.fits(), 1 << 3);
        due("21 forgotten", o.forget(), 1);
        due("21 none", o.forget(), 0);
        write(o, "*-x2-xy");
        o.reads();
        due("20 anew", o.comes(5, 0), 1);
        due("22 two x", o.fits(), (1 << 2) | (1 << 5));
        due("20 second", o.comes(7, 0), 2);
        due("22 both", o.fits(), 1 << 2);
        due("20 third", o.comes(7, 0), 3);
        due("20 full", o.comes(7, 0), FULL);
        due("20 number", o.count(3), 3);
        due("22 inputs stay", o.input(0), 100);
        write(o, "+xy");
        o.reads();
        due("22 by the present program", o.fits(), 0);
        OneReturns loop = with("@Fa?a0!F-a1!F-xy");
        loop.comes(4, 0);
        due("22 too long is not true", loop.fits(), 1023 & ~15);
        OneReturns extreme = with("+xy");
        extreme.comes(Integer.MAX_VALUE, Integer.MIN_VALUE);
        due("22 overflow", extreme.fits(), 2);
        due("21 one", extreme.forget(), 1);
        due("20 after forgetting", extreme.comes(0, 9), 1);
        due("22 nine", extreme.fits(), 1 << 9);
    }

    private static void images() {
        OneReturns o = with("+xy", 1, 2);
        due("24 empty", o.back(0), STATE);
        due("23 kept", o.keep(0), 3);
        due("23 above", o.keep(2), BAD);
        due("23 below", o.keep(-1), BAD);
        due("24 above", o.back(2), BAD);
        due("24 below", o.back(-1), BAD);
        due("24 the other is empty", o.back(1), STATE);
        due("24 an error changes nothing", o.count(5), 2);
        write(o, "7");
        o.reads();
        o.inputs(3, 4);
        o.type('1');
        o.comes(1, 1);
        due("23 the other", o.keep(1), 1);
        due("23 records nothing", o.count(5), 4);
        due("24 restored", o.back(0), 3);
        due("24 program", text(o), "+xy");
        due("24 run", o.run(), 3);
        due("24 x", o.input(0), 1);
        due("24 no actions", o.count(5), 0);
        due("24 nothing to undo", o.undo(), STATE);
        due("24 text stays", o.count(4), 1);
        due("24 observations stay", o.count(3), 1);
        due("24 the other restored", o.back(1), 1);
        due("24 y", o.input(1), 4);
        due("24 kept still", o.back(0), 3);
        o.inputs(8, 9);
        due("24 recorded anew", o.count(5), 1);
        due("24 undone", o.undo(), 0);
        due("24 back to the image", o.input(1), 2);
        o.inputs(5, 6);
        due("23 in place of what it held", o.keep(0), 3);
        o.inputs(0, 0);
        o.back(0);
        due("23 the newer inputs", o.input(0), 5);
    }

    private static void count() {
        OneReturns o = with("@Faa@Ebb+!E1*!F2!F3", 1, 1);
        o.comes(1, 1);
        write(o, "+1 ");
        int[] totals = {12, 2, 1, 1, 3, 2};
        for (int what = 0; what < totals.length; what++) {
            due("25 count(" + what + ")", o.count(what), totals[what]);
        }
        due("25 above", o.count(6), BAD);
        due("25 below", o.count(-1), BAD);
    }

    private static void input() {
        OneReturns o = with("7", -3, Integer.MAX_VALUE);
        due("26 x", o.input(0), -3);
        due("26 y", o.input(1), Integer.MAX_VALUE);
        due("26 above", o.input(2), 0);
        due("26 below", o.input(-1), 0);
    }
}

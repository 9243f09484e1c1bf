/** Promises 18 and 19, and the rules of "Simplification", on which promise 6 rests too. */
final class ShrinkBoundaries {
    private ShrinkBoundaries() {
    }

    private static final String SECTION = "Simplification";

    private static void rule(String before, int place, int rule, String after) {
        OneReturns o = Made.with(before);
        Sentences.due("next(0) of " + before, o.next(0), place);
        Sentences.due("next(1) of " + before, o.next(1), rule);
        Sentences.due("shrinks(1) of " + before, o.shrinks(1), 1);
        Sentences.due("what " + before + " becomes", Made.text(o), after);
    }

    private static void noRule(String program) {
        OneReturns o = Made.with(program);
        Sentences.due("next(0) of " + program, o.next(0), Made.NONE);
        Sentences.due("next(1) of " + program, o.next(1), Made.NONE);
        Sentences.due("shrinks(1) of " + program, o.shrinks(1), Made.STATE);
        Sentences.due("shortest(0) of " + program, o.shortest(0), 0);
    }

    // ---- the rules

    static void rule1() {
        Sentences.says(6, SECTION, "1. A sum, difference or product of two digits whose value is 0 to 9 becomes this digit.");
        for (int a = 0; a <= 9; a++) {
            for (int b = 0; b <= 9; b++) {
                operation("+" + a + b, a + b);
                operation("-" + a + b, a - b);
                operation("*" + a + b, a * b);
            }
        }
        noRule("+x1");
        noRule("-1x");
        noRule("*0x");
        noRule("*x0");
        noRule("+*xy9");
        noRule("-9+xy");
        noRule("-xx");
        noRule("++551");
    }

    private static void operation(String program, int value) {
        if (value >= 0 && value <= 9) {
            rule(program, 0, 1, "" + value);
        } else {
            noRule(program);
        }
    }

    static void rule2() {
        Sentences.says(6, SECTION, "2. A choice whose first expression is a digit becomes the second expression if the digit is 0, otherwise the third one.");
        rule("?0xy", 0, 2, "x");
        for (int digit = 1; digit <= 9; digit++) {
            rule("?" + digit + "xy", 0, 2, "y");
        }
        rule("?0+xy*xy", 0, 2, "+xy");
        rule("?1+xy*xy", 0, 2, "*xy");
        noRule("?x12");
        noRule("?+5512");
    }

    static void rule3() {
        Sentences.says(6, SECTION, "3. A binding whose name is not used in its second expression becomes the second expression, if there is no call in the first one.");
        rule(":a57", 0, 3, "7");
        rule(":a+xy*xy", 0, 3, "*xy");
        rule(":a@Fbb37", 0, 3, "7");
        rule(":a+xy:b*xya", 0, 5, ":b*xy+xy");
        rule("@Fb!Fb:a+xy!F1", 3, 3, "@Fb!Fb!F1");
        noRule("@Fb!Fb:a!F17");
        noRule("@Fb!Fb:a+1!F17");
        noRule(":a@Fb!Fb!F17");
        // The call is in a body that is never run: a call in the first one all the same.
        rule(":a@Fb!Fb37", 1, 6, ":a37");
    }

    static void rule4() {
        Sentences.says(6, SECTION, "4. A binding whose first expression is a digit, a name of a value, x or y becomes its second expression, in which each use of the name is replaced by the first expression.");
        for (int digit = 0; digit <= 9; digit++) {
            rule(":a" + digit + "*ax", 0, 4, "*" + digit + "x");
        }
        rule(":axa", 0, 4, "x");
        rule(":aya", 0, 4, "y");
        rule("@Fb:ab*aa+!F1!F2", 1, 4, "@Fb*bb+!F1!F2");
        rule(":a5+a:b+aa*ba", 0, 4, "+5:b+55*b5");
        rule(":ax@Fb+ab+!Fa!F2", 0, 4, "@Fb+xb+!Fx!F2");
        rule(":ax" + "+".repeat(27) + "a".repeat(28), 0, 4, "+".repeat(27) + "x".repeat(28));
        noRule(":a-xy*aa");
        noRule("@Fb!Fb:a!F1*aa");
    }

    static void rule5() {
        Sentences.says(6, SECTION, "5. A binding whose name is used exactly once in its second expression becomes the second expression, in which this use is replaced by the first expression, if there is no call in the first one.");
        rule(":a+xya", 0, 5, "+xy");
        rule(":a+xy*a2", 0, 5, "*+xy2");
        rule(":a+xy-*2ay", 0, 5, "-*2+xyy");
        rule(":a*xx@Fb+ab+!F1!F2", 0, 5, "@Fb+*xxb+!F1!F2");
        rule(":a@Fbb3+a1", 0, 5, "+@Fbb31");
        rule("@Fb!Fb:a+xy!Fa", 3, 5, "@Fb!Fb!F+xy");
        noRule(":a+xy*aa");
        noRule(":a+xy+a*aa");
        noRule("@Fb!Fb:a!F1+a2");
        noRule("@Fb!Fb:a+1!F1+a2");
        rule(":a@Fb!Fb3+a1", 1, 6, ":a3+a1");
    }

    static void rule6() {
        Sentences.says(6, SECTION, "6. A definition whose function is not called in the second expression becomes the second expression.");
        rule("@Faa7", 0, 6, "7");
        rule("@Fa!Fa+xy", 0, 6, "+xy");
        rule("@Fa@Eb!Fb!Ea7", 0, 6, "7");
        rule("+1@Fa+!Fa!Fa*xy", 2, 6, "+1*xy");
        // Called by one that is not called is called, too.
        rule("@Faa@Eb+!Fb!Fb7", 2, 6, "@Faa7");
    }

    static void rule7() {
        Sentences.says(6, SECTION, "7. A definition whose function F is called exactly once in the second expression, and not in its own body, becomes the second expression, in which the call !FE is replaced by the binding :v E body.");
        rule("@Faa!Fx", 0, 7, ":axa");
        rule("@Fa7!Fx", 0, 7, ":ax7");
        rule("@Fa+a1*!F-xy2", 0, 7, "*:a-xy+a12");
        rule("@Faa@Eb!Fb7", 0, 7, "@Eb:aba7");
        rule("@Faa@Eb+bb+!E!F1!E2", 0, 7, "@Eb+bb+!E:a1a!E2");
        rule("@Fa@Eb+ab!E1!F2", 0, 7, ":a2@Eb+ab!E1");
        noRule("@Faa+!F1!F2");
        noRule("@Faa!F!F1");
        noRule("@Fa!Fa!F1");
        noRule("@Fa!Fa+!F1!F2");
        rule("@Fa@Eb!Fba!F1", 1, 6, "@Faa!F1");
    }

    static void firstRule() {
        Sentences.says(18, SECTION, "An expression can be simplified by the first of the following rules that applies to it");
        rule(":a57", 0, 3, "7");
        rule(":ax7", 0, 3, "7");
        rule(":a5a", 0, 4, "5");
        rule(":axa", 0, 4, "x");
        rule("@Fa!Fa7", 0, 6, "7");
    }

    static void lowestNumber() {
        Sentences.says(18, SECTION, "To simplify the program once means to apply the rule to the expression with the lowest number that can be simplified.");
        rule("*+12+34", 1, 1, "*3+34");
        rule("?0+12+34", 0, 2, "+12");
        rule("?+1234", 1, 1, "?334");
        rule(":a+12*aa", 1, 1, ":a3*aa");
        rule("@Fa+12+!F1!F2", 1, 1, "@Fa3+!F1!F2");
        rule("+x".repeat(27) + "+12", 54, 1, "+x".repeat(27) + "3");
        Sentences.says(18, SECTION, "The expressions are numbered anew then.");
        OneReturns o = Made.with("+?0x+12?1y*22");
        Sentences.due("first", o.next(0), 1);
        o.shrinks(1);
        Sentences.due("the program then", Made.text(o), "+x?1y*22");
        Sentences.due("then", o.next(0), 2);
        Sentences.due("its size", o.part(2, 1), 6);
        o.shrinks(1);
        Sentences.due("the program at last", Made.text(o), "+x*22");
        Sentences.due("at last", o.next(0), 2);
    }

    // ---- promise 18

    static void nextAnswers() {
        Sentences.says(18, "0 for the number of the expression, 1 for the number of the rule, 1 to 7");
        String[] programs = {"+12", "?0xy", ":a+xy7", ":a5a", ":a+xya", "@Faa7", "@Faa!Fx"};
        for (int rule = 1; rule <= programs.length; rule++) {
            OneReturns o = Made.with(programs[rule - 1]);
            Sentences.due("next(1) of " + programs[rule - 1], o.next(1), rule);
            Sentences.due("next(0) of " + programs[rule - 1], o.next(0), 0);
        }
        Sentences.says(18, "Returns that number");
        OneReturns o = Made.with("+1+1+12");
        Sentences.due("next(0)", o.next(0), 4);
        Sentences.due("next(0) again", o.next(0), 4);
        Sentences.due("the program stays", Made.text(o), "+1+1+12");
        Sentences.due("nothing is recorded", o.count(5), 1);
        Sentences.says(18, "NONE if the program cannot be simplified");
        Sentences.due("next(0) of a new object", new OneReturns().next(0), Made.NONE);
        Sentences.due("next(1) of a new object", new OneReturns().next(1), Made.NONE);
        o.shrinks(60);
        Sentences.due("next(0) when all is done", o.next(0), Made.NONE);
        Sentences.says(18, "BAD if what is not 0 or 1.");
        for (int what : new int[] {-1, 2, Made.MIN, Made.MAX}) {
            Sentences.due("next(" + what + ")", Made.with("+12").next(what), Made.BAD);
            Sentences.due("next(" + what + ") of a new object", new OneReturns().next(what), Made.BAD);
        }
    }

    // ---- promise 19

    static void shortestAnswers() {
        Sentences.says(19, "0 for how often, 1 for the number of expressions that the program would have then");
        Sentences.says(19, "Returns that number");
        shortest("0", 0, 1);
        shortest("+12", 1, 1);
        shortest("+x1", 0, 3);
        shortest("@Fa+a1*!Fx2", 2, 5);
        shortest("+".repeat(29) + "0".repeat(30), 29, 1);
        shortest(TextBoundaries.LONGEST, 29, 1);
        shortest(TextBoundaries.LONGEST.replace('0', 'x'), 0, 60);
        Sentences.says(19, "BAD if what is not 0 or 1.");
        for (int what : new int[] {-1, 2, Made.MIN, Made.MAX}) {
            Sentences.due("shortest(" + what + ")", Made.with("+12").shortest(what), Made.BAD);
            Sentences.due("shortest(" + what + ") of a new object", new OneReturns().shortest(what), Made.BAD);
        }
    }

    private static void shortest(String program, int times, int expressions) {
        OneReturns o = Made.with(program);
        Sentences.due("shortest(0) of " + program, o.shortest(0), times);
        Sentences.due("shortest(1) of " + program, o.shortest(1), expressions);
        Sentences.due("the program after it", Made.text(o), program);
        Sentences.due("what it recorded", o.count(5), 1);
        Sentences.due("shrinks(60) of " + program, o.shrinks(60), times == 0 ? Made.STATE : times);
        Sentences.due("count(0) then", o.count(0), expressions);
        Sentences.due("shortest(0) then", o.shortest(0), 0);
        Sentences.due("shortest(1) then", o.shortest(1), expressions);
    }

    static void wouldBe() {
        Sentences.says(19, "Returns what would be if the program were simplified as often as possible.");
        OneReturns o = Made.with("+1+12", 3, 4);
        o.comes(1, 4);
        String before = Made.seen(o);
        o.shortest(0);
        o.shortest(1);
        Sentences.due("all of it", Made.seen(o), before);
        Sentences.due("the expressions", o.part(4, 0), '2');
        Sentences.due("the steps", o.cost(0), 5);
    }
}

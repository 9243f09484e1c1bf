/** Promises 8 to 12: parts, characters, names, functions and tail calls of a program. */
final class PartBoundaries {
    private PartBoundaries() {
    }

    private static final String DEEPEST = "@Faa" + "!F".repeat(27) + "1";

    // ---- promise 8

    static void noSuchPart() {
        Sentences.says(8, "BAD if there is no such expression, or what is not 0 to 3.");
        OneReturns o = Made.with("+12");
        for (int what = 0; what <= 3; what++) {
            for (int p : new int[] {-1, 3, 60, Made.MIN, Made.MAX}) {
                Sentences.due("part(" + p + ", " + what + ")", o.part(p, what), Made.BAD);
            }
        }
        for (int what : new int[] {-1, 4, Made.MIN, Made.MAX}) {
            Sentences.due("part(0, " + what + ")", o.part(0, what), Made.BAD);
            Sentences.due("part(3, " + what + ")", o.part(3, what), Made.BAD);
        }
        o.shrinks(1);
        Sentences.due("part(0, 0) of what is left", o.part(0, 0), '3');
        Sentences.due("part(1, 0), which is gone", o.part(1, 0), Made.BAD);
        OneReturns most = Made.with(TextBoundaries.LONGEST);
        Sentences.due("part(59, 0)", most.part(59, 0), '0');
        Sentences.due("part(60, 0)", most.part(60, 0), Made.BAD);
    }

    static void partProperties() {
        Sentences.says(8, "Returns the property");
        OneReturns o = Made.with("?:a1a@Fb-bb*!F345");
        // 0 ? 1 : 2 1 3 a 4 @ 5 - 6 b 7 b 8 * 9 ! 10 3 11 4 12 5
        int[] sizes = {13, 3, 1, 1, 8, 3, 1, 1, 4, 2, 1, 1, 1};
        int[] around = {Made.NONE, 0, 1, 1, 0, 4, 5, 5, 4, 8, 9, 8, 0};
        int[] depths = {0, 1, 2, 2, 1, 2, 3, 3, 2, 3, 4, 3, 1};
        for (int p = 0; p < sizes.length; p++) {
            Sentences.due("part(" + p + ", 1)", o.part(p, 1), sizes[p]);
            Sentences.due("part(" + p + ", 2)", o.part(p, 2), around[p]);
            Sentences.due("part(" + p + ", 3)", o.part(p, 3), depths[p]);
        }
    }

    static void wholeProgram() {
        Sentences.says(8, "2 for the number of the expression of which it is an immediate part (NONE for the whole program)");
        Sentences.due("of a new object", new OneReturns().part(0, 2), Made.NONE);
        OneReturns o = Made.with(DEEPEST);
        Sentences.due("of the whole program", o.part(0, 2), Made.NONE);
        Sentences.due("of the body", o.part(1, 2), 0);
        Sentences.due("of the second one", o.part(2, 2), 0);
        Sentences.due("of the last one", o.part(29, 2), 28);
        Sentences.says(8, "3 for the number of expressions around it (0 for the whole program)");
        Sentences.due("around a new object's", new OneReturns().part(0, 3), 0);
        Sentences.due("around the whole program", o.part(0, 3), 0);
        Sentences.due("around the body", o.part(1, 3), 1);
        Sentences.due("around the last one", o.part(29, 3), 28);
        Sentences.says(8, "1 for the number of its expressions, itself included");
        Sentences.due("of the whole program", o.part(0, 1), 30);
        Sentences.due("of the body", o.part(1, 1), 1);
        Sentences.due("of the last one", o.part(29, 1), 1);
        Sentences.due("of the longest program", Made.with(TextBoundaries.LONGEST).part(0, 1), 60);
    }

    static void firstLetters() {
        Sentences.says(8, "0 for its first letter");
        OneReturns o = Made.with(" @ F a : b x - b a ? ! F y * 1 9 + 2 y ");
        String letters = "@:x-ba?!y*19+2y";
        for (int p = 0; p < letters.length(); p++) {
            Sentences.due("part(" + p + ", 0)", o.part(p, 0), letters.charAt(p));
        }
    }

    // ---- promise 9

    static void characters() {
        Sentences.says(9, "`k`: index of the character, from 0; -1 for the number of characters");
        OneReturns o = Made.with(" @ F a + a 1 ! F x ");
        Sentences.due("told(-1)", o.told(-1), 9);
        Sentences.due("told(0)", o.told(0), '@');
        Sentences.due("told(1), a name", o.told(1), 'F');
        Sentences.due("told(8)", o.told(8), 'x');
        Sentences.due("told(-1) of a new object", new OneReturns().told(-1), 1);
        Sentences.due("told(0) of a new object", new OneReturns().told(0), '0');
        OneReturns most = Made.with(TextBoundaries.LONGEST);
        Sentences.says(9, "Returns the character, or that number");
        Sentences.due("told(-1) of the longest", most.told(-1), 60);
        Sentences.due("told(59) of the longest", most.told(59), '0');
        Sentences.says(9, "NONE if there are not so many");
        Sentences.due("told(9)", o.told(9), Made.NONE);
        Sentences.due("told(1) of a new object", new OneReturns().told(1), Made.NONE);
        Sentences.due("told(60) of the longest", most.told(60), Made.NONE);
        Sentences.due("told(MAX)", o.told(Made.MAX), Made.NONE);
        most.shrinks(60);
        Sentences.due("told(1) when one is left", most.told(1), Made.NONE);
        Sentences.says(9, "BAD if k is less than -1.");
        Sentences.due("told(-2)", o.told(-2), Made.BAD);
        Sentences.due("told(MIN)", o.told(Made.MIN), Made.BAD);
    }

    static void withoutBlanks() {
        Sentences.says(9, "Returns a character of the program, written as a text without blanks.");
        Sentences.due("59 blanks before", Made.text(Made.with(" ".repeat(59) + "1")), "1");
        Sentences.due("blanks between", Made.text(Made.with(": a  1 a ")), ":a1a");
        OneReturns o = Made.with("7");
        Made.type(o, "+12");
        Sentences.due("the text buffer does not matter", Made.text(o), "7");
    }

    // ---- promise 10

    static void usedNames() {
        Sentences.says(10, "`letter`: the code of a letter a to h, x or y");
        OneReturns o = Made.with(":a1:h2+*ah-x+xy");
        Sentences.due("uses('a')", o.uses('a'), 1);
        Sentences.due("uses('h')", o.uses('h'), 1);
        Sentences.due("uses('x')", o.uses('x'), 2);
        Sentences.due("uses('y')", o.uses('y'), 1);
        Sentences.says(10, "BAD if it is another letter.");
        for (int letter : new int[] {'`', 'i', 'w', 'z', 'A', 'F', 'X', '0', '1', '+', ':', 0, -1, 'a' + 256, 'x' - 256, Made.MIN, Made.MAX}) {
            Sentences.due("uses(" + letter + ")", o.uses(letter), Made.BAD);
        }
    }

    static void notIntroduced() {
        Sentences.says(10, "Counts how often a name of a value, or an input, is used in the program (not counting where it is introduced).");
        Sentences.due("a binding", Made.with(":a12").uses('a'), 0);
        Sentences.due("a parameter", Made.with("@Fa12").uses('a'), 0);
        Sentences.due("a binding and a use", Made.with(":a1a").uses('a'), 1);
        Sentences.due("a parameter and two uses", Made.with("@Fa+aa2").uses('a'), 2);
        Sentences.says(10, "Returns the number of uses");
        Sentences.due("a name that the program has not", Made.with(":a1a").uses('b'), 0);
        Sentences.due("an input that the program has not", Made.with("x").uses('y'), 0);
        Sentences.due("the most", Made.with("+".repeat(29) + "x".repeat(30)).uses('x'), 30);
        OneReturns o = Made.with(":axa");
        o.shrinks(1);
        Sentences.due("when it has been replaced", o.uses('a'), 0);
    }

    // ---- promise 11

    static void functionLetters() {
        Sentences.says(11, "`letter`: the code of a letter A to F");
        OneReturns o = Made.with("@Aaa@Fff+!A1!F2");
        Sentences.due("function('A', 0)", o.function('A', 0), 0);
        Sentences.due("function('F', 0)", o.function('F', 0), 2);
        Sentences.says(11, "BAD if letter or what is out of range.");
        for (int letter : new int[] {'@', 'G', 'a', 'f', '0', 0, -1, 'A' + 256, 'A' - 256, Made.MIN, Made.MAX}) {
            for (int what = -1; what <= 5; what++) {
                Sentences.due("function(" + letter + ", " + what + ")", o.function(letter, what), Made.BAD);
            }
        }
        for (int what : new int[] {-1, 5, Made.MIN, Made.MAX}) {
            Sentences.due("function('A', " + what + ")", o.function('A', what), Made.BAD);
            Sentences.due("function('B', " + what + ")", o.function('B', what), Made.BAD);
        }
    }

    static void undefined() {
        Sentences.says(11, "NONE if the program does not define it");
        OneReturns o = Made.with("@Faa!F1");
        for (int what = 0; what <= 4; what++) {
            Sentences.due("function('E', " + what + ")", o.function('E', what), Made.NONE);
            Sentences.due("function('A', " + what + ") of a new object", new OneReturns().function('A', what), Made.NONE);
        }
        o.shrinks(1);
        for (int what = 0; what <= 4; what++) {
            Sentences.due("function('F', " + what + "), which is gone", o.function('F', what), Made.NONE);
        }
    }

    static void functionProperties() {
        Sentences.says(11, "0 for the number of the expression that defines it; 1 for the number of its calls; 2 for how many of these are tail calls; 3 for its return: the number of a call, or NOWHERE, MANY or END; 4 for 1 if it is a jump, otherwise 0");
        Sentences.says(11, "Returns the property");
        properties("@Faa1", new int[] {0, 0, 0, Made.NOWHERE, 0});
        properties("@Fa!Fa1", new int[] {0, 1, 1, Made.NOWHERE, 0});
        properties("@Faa!F1", new int[] {0, 1, 1, Made.END, 1});
        properties("+1@Faa!F1", new int[] {2, 1, 0, 4, 1});
        properties("@Faa+!F1!F2", new int[] {0, 2, 0, Made.MANY, 0});
        properties(DEEPEST, new int[] {0, 27, 1, Made.MANY, 0});
        properties("+".repeat(26) + "1".repeat(26) + "@Faa!F1", new int[] {52, 1, 0, 54, 1});
        properties("@Faa" + "?x!F1".repeat(10) + "!F1", new int[] {0, 11, 11, Made.END, 1});
    }

    private static void properties(String program, int[] due) {
        OneReturns o = Made.with(program);
        for (int what = 0; what < due.length; what++) {
            Sentences.due("function('F', " + what + ") of " + program, o.function('F', what), due[what]);
        }
    }

    // ---- promise 12

    static void tailCalls() {
        Sentences.says(12, "Returns 1 if it is, 0 if it is another call, NONE if it is no call");
        OneReturns o = Made.with("@Faa!F+1!Fx");
        int[] due = {Made.NONE, Made.NONE, 1, Made.NONE, Made.NONE, 0, Made.NONE};
        for (int p = 0; p < due.length; p++) {
            Sentences.due("last(" + p + ")", o.last(p), due[p]);
        }
        Sentences.due("last(0) of a new object", new OneReturns().last(0), Made.NONE);
        OneReturns deep = Made.with(DEEPEST);
        Sentences.due("the outermost call", deep.last(2), 1);
        Sentences.due("the innermost call", deep.last(28), 0);
        Sentences.says(12, "BAD if there is no such expression.");
        for (int p : new int[] {-1, 7, 60, Made.MIN, Made.MAX}) {
            Sentences.due("last(" + p + ")", o.last(p), Made.BAD);
        }
        Sentences.due("last(59) of the longest", Made.with(TextBoundaries.LONGEST).last(59), Made.NONE);
        Sentences.due("last(60) of the longest", Made.with(TextBoundaries.LONGEST).last(60), Made.BAD);
    }
}

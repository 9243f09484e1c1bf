/** Promises 1 to 4, and the texts that they rest on. */
final class TextBoundaries {
    private TextBoundaries() {
    }

    private static final int ROOM = 60;
    private static final int CODES = 256;
    /** 60 characters that are 60 expressions: no program has more. */
    static final String LONGEST = "+".repeat(28) + "?" + "0".repeat(31);

    // ---- promise 1

    static void newObject() {
        Sentences.says(1, "Creates an object with the program 0 and the inputs 0, with an empty text buffer, no recorded actions, no observations and no images.");
        OneReturns o = new OneReturns();
        Sentences.due("the program", Made.text(o), "0");
        Sentences.due("x", o.input(0), 0);
        Sentences.due("y", o.input(1), 0);
        Sentences.due("the same inputs", o.inputs(0, 0), Made.STATE);
        Sentences.due("the text", o.clear(), 0);
        Sentences.due("reading no text", o.reads(), -10);
        Sentences.due("undo", o.undo(), Made.STATE);
        Sentences.due("forget", o.forget(), 0);
        Sentences.due("fits", o.fits(), 1023);
        Sentences.due("image 0", o.back(0), Made.STATE);
        Sentences.due("image 1", o.back(1), Made.STATE);
        Sentences.due("all of it", Made.seen(o), "0 0 0 0 1023 1 0 0 0 0 0");
    }

    static void objectsAreApart() {
        Sentences.says(1, "Creates an object");
        OneReturns used = Made.with("+xy", 3, 4);
        used.comes(1, 2);
        used.keep(0);
        used.type('7');
        Sentences.due("a new one beside a used one", Made.seen(new OneReturns()), "0 0 0 0 1023 1 0 0 0 0 0");
        Sentences.due("the used one", Made.seen(used), "+xy 3 4 0 2 3 0 0 1 1 2");
    }

    static void programAtFirst() {
        Sentences.says(1, "Programs", "At first the program is the digit 0.");
        OneReturns o = new OneReturns();
        Sentences.due("its letter", o.part(0, 0), '0');
        Sentences.due("its value", o.run(), 0);
    }

    static void inputsAtFirst() {
        Sentences.says(1, "Runs", "A run evaluates the program with the inputs x and y, which are 0 at first.");
        Sentences.due("x", Made.with("?x12").run(), 1);
        Sentences.due("y", Made.with("?y12").run(), 1);
    }

    // ---- promise 2

    static void codes() {
        Sentences.says(2, "`letter`: its code, 0 to 255");
        OneReturns o = new OneReturns();
        Sentences.due("type(0)", o.type(0), 1);
        Sentences.due("type(255)", o.type(255), 2);
        Sentences.says(2, "BAD if letter is out of range");
        for (int letter : new int[] {-1, 256, '1' + 256, '1' - 256, Made.MIN, Made.MAX}) {
            Sentences.due("type(" + letter + ")", o.type(letter), Made.BAD);
        }
        Sentences.due("the characters then", o.count(4), 2);
    }

    static void charactersAreCounted() {
        Sentences.says(2, "Returns the number of characters in the text buffer");
        OneReturns o = new OneReturns();
        for (int i = 1; i <= ROOM; i++) {
            Sentences.due("character " + i, o.type(' '), i);
        }
        o.clear();
        Sentences.due("the first one after clear()", o.type(' '), 1);
    }

    static void fullText() {
        Sentences.says(2, "FULL if there are 60.");
        OneReturns o = Made.typed(" ".repeat(59));
        Sentences.due("the 60th character", o.type('7'), 60);
        Sentences.due("the 61st character", o.type('8'), Made.FULL);
        Sentences.due("the 62nd character", o.type(' '), Made.FULL);
        Sentences.due("the characters then", o.count(4), 60);
        Sentences.due("reads()", o.reads(), 1);
        Sentences.due("the program", Made.text(o), "7");
        Sentences.due("a character after reads()", o.type('8'), 1);
    }

    static void appends() {
        Sentences.says(2, "Appends a character to the text buffer.");
        OneReturns o = Made.typed("-9");
        o.type('4');
        o.reads();
        Sentences.due("the program", Made.text(o), "-94");
    }

    // ---- promise 3

    static void clears() {
        Sentences.says(3, "Empties the text buffer.");
        OneReturns o = Made.with("+12");
        Made.type(o, "7 8");
        o.clear();
        Sentences.due("the characters then", o.count(4), 0);
        Sentences.due("reading no text", o.reads(), -10);
        Sentences.due("the program stays", Made.text(o), "+12");
        Sentences.due("the record stays", o.count(5), 1);
        Made.type(o, "9");
        Sentences.due("reading the new text", o.reads(), 1);
        Sentences.due("the program", Made.text(o), "9");
    }

    static void clearCounts() {
        Sentences.says(3, "Returns the number of characters that it had.");
        OneReturns o = new OneReturns();
        Sentences.due("of an empty one", o.clear(), 0);
        o.type(' ');
        Sentences.due("of one blank", o.clear(), 1);
        Sentences.due("again", o.clear(), 0);
        Made.type(o, "+".repeat(61));
        Sentences.due("of a full one", o.clear(), 60);
    }

    // ---- promise 4

    static void emptyThen() {
        Sentences.says(4, "Reads the program from the text buffer, which is empty then.");
        OneReturns o = Made.typed("+12");
        Sentences.due("reads()", o.reads(), 3);
        Sentences.due("the characters then", o.count(4), 0);
        Sentences.due("reads() again", o.reads(), -10);
        Sentences.due("the program stays then", Made.text(o), "+12");
    }

    /** What is asked of a program that is read when the object held a longer one. */
    private static void sameAsAlone(String longer, String shorter) {
        OneReturns o = Made.with(longer);
        o.run();
        o.shortest(0);
        o.next(0);
        Made.type(o, shorter);
        o.reads();
        Sentences.due(shorter + " after " + longer, asked(o), asked(Made.with(shorter)));
    }

    private static String asked(OneReturns o) {
        StringBuilder s = new StringBuilder(Made.text(o));
        for (char c : "abxy".toCharArray()) {
            s.append(' ').append(o.uses(c));
        }
        for (int what = 0; what < 5; what++) {
            s.append(' ').append(o.function('F', what)).append(' ').append(o.function('E', what));
        }
        for (int what = 0; what < 3; what++) {
            s.append(' ').append(o.count(what)).append(' ').append(o.cost(what)).append(' ').append(o.frames(what));
        }
        for (int p = 0; p < 12; p++) {
            s.append(' ').append(o.part(p, 0)).append(' ').append(o.part(p, 1)).append(' ').append(o.last(p)).append(' ').append(o.often(p));
        }
        s.append(' ').append(o.next(0)).append(' ').append(o.next(1)).append(' ').append(o.shortest(0)).append(' ').append(o.shortest(1));
        return s.append(' ').append(o.run()).append(' ').append(o.status()).append(' ').append(o.shrinks(60)).toString();
    }

    static void shorterThanBefore() {
        Sentences.says(4, "Reads the program from the text buffer");
        sameAsAlone("+xx", "1");
        sameAsAlone("?xy+12", "+xy");
        sameAsAlone("@Faa?1!F2!F3", "@Faa!F1");
        sameAsAlone("@Faa?1!F2!F3", "@Fa!Fa7");
        sameAsAlone("@Faa?1!F2!F3", "7");
        sameAsAlone("@Fa!Fa!F1", ":a1a");
        sameAsAlone(LONGEST, "x");
        sameAsAlone("x", "@Faa?1!F2!F3");
    }

    static void othersStay() {
        Sentences.says(4, "The inputs, the observations and the images stay.");
        OneReturns o = Made.with("+xy", 3, 4);
        o.comes(1, 6);
        o.keep(1);
        Made.type(o, "-xy");
        o.reads();
        Sentences.due("all of it", Made.seen(o), "-xy 3 4 0 128 3 0 0 1 0 3");
        Sentences.due("image 1", o.back(1), 3);
        Sentences.due("its program", Made.text(o), "+xy");
        Sentences.due("image 0", o.back(0), Made.STATE);
    }

    static void expressionsAreCounted() {
        Sentences.says(4, "Returns the number of expressions of the program");
        Sentences.due("the fewest", Made.reads("x"), 1);
        Sentences.due("the most", Made.reads(LONGEST), 60);
        Sentences.due("names are none", Made.reads("@Fa:b1a!F2"), 6);
    }

    static void errorPositions() {
        Sentences.says(4, "-10 minus the error position if the text has an error (then nothing changes, and the text stays).");
        Sentences.due("at 0", Made.reads("z"), -10);
        Sentences.due("at 0 of no text", Made.reads(""), -10);
        Sentences.due("at 1", Made.reads("1z"), -11);
        Sentences.due("at 59", Made.reads("+".repeat(59) + "z"), -69);
        Sentences.due("at 60", Made.reads("+".repeat(60)), -70);
        OneReturns o = Made.with("+xy", 3, 4);
        o.comes(1, 6);
        Made.type(o, "*x");
        Sentences.due("a text that ends early", o.reads(), -12);
        Sentences.due("the same again", o.reads(), -12);
        Sentences.due("all of it", Made.seen(o), "+xy 3 4 0 32 3 0 0 1 2 2");
        Sentences.due("typing goes on", o.type('x'), 3);
        Sentences.due("the text then", o.reads(), 3);
        Sentences.due("the program then", Made.text(o), "*xx");
    }

    static void sixtyCharacters() {
        Sentences.says(4, "Texts", "There is a text buffer with at most 60 characters.");
        OneReturns o = Made.with(LONGEST);
        Sentences.due("the program of 60 characters", Made.text(o), LONGEST);
        Sentences.due("its last expression", o.part(59, 0), '0');
        Sentences.due("its value", o.run(), 0);
        Sentences.due("one character more is not there", Made.reads("+" + LONGEST), -70);
    }

    static void blanks() {
        Sentences.says(4, "Texts", "A text contains a program; blanks (32) may stand everywhere and are ignored.");
        String program = "@Fa?a1*a!F-a1:b!Fxb";
        StringBuilder wide = new StringBuilder(" ");
        for (char c : program.toCharArray()) {
            wide.append(c).append("  ");
        }
        Sentences.due("with blanks", Made.text(Made.with(wide.toString())), program);
        Sentences.due("59 blanks before", Made.reads(" ".repeat(59) + "1"), 1);
        Sentences.due("59 blanks after", Made.reads("1" + " ".repeat(59)), 1);
        for (int code : new int[] {0, 9, 10, 13, 31, 33, 160}) {
            Sentences.due("code " + code + " before", Made.reads((char) code + "1"), code == '!' ? -11 : -10);
        }
    }

    static void firstFault() {
        Sentences.says(4, "Texts", "The error position of a text is the index, from 0, of the first character that cannot stand there");
        Sentences.due("two faults", Made.reads("+z+z"), -11);
        Sentences.due("blanks are counted", Made.reads(" + z"), -13);
        Sentences.due("a fault before an early end", Made.reads("+A"), -11);
    }

    static void noExpression() {
        Sentences.says(4, "Texts", "one that begins no expression where an expression must stand");
        for (int code = 0; code < CODES; code++) {
            char c = (char) code;
            boolean isSimple = "0123456789xy".indexOf(c) >= 0;
            boolean goesOn = "+-*?:@! ".indexOf(c) >= 0;
            Sentences.due("code " + code + " alone", Made.reads("" + c), isSimple ? 1 : goesOn ? -11 : -10);
            Sentences.due("code " + code + " as an operand", Made.reads("+1" + c), isSimple ? 3 : goesOn ? -13 : -12);
        }
    }

    static void unknownName() {
        Sentences.says(4, "Texts", "a name that is not known there");
        Sentences.due("never introduced", Made.reads("a"), -10);
        Sentences.due("never introduced, the last one", Made.reads("+1h"), -12);
        Sentences.due("another one is known", Made.reads(":a1b"), -13);
        Sentences.due("in its own binding", Made.reads(":aa1"), -12);
        Sentences.due("after its binding", Made.reads("+:a1aa"), -15);
        Sentences.due("before its binding", Made.reads("+a:a1a"), -11);
        Sentences.due("a parameter after the body", Made.reads("@Faaa"), -14);
        Sentences.due("bound in a body, used after it", Made.reads("@Fa:b1bb"), -17);
        Sentences.due("bound in the first of a binding, used in its second", Made.reads(":a:b1bb"), -16);
        Sentences.due("of a choice's other expression", Made.reads("?0:a1aa"), -16);
        Sentences.due("of an argument", Made.reads("@Faa+!F:b1bb"), -21);
        Sentences.due("known around a body", Made.reads(":a1@Fb+ab!Fa"), 8);
        OneReturns o = Made.typed("@Fa:b1+");
        Sentences.due("a text that ends where a, b and F are known", o.reads(), -17);
        o.clear();
        Made.type(o, "a");
        Sentences.due("its parameter in the next text", o.reads(), -10);
        o.clear();
        Made.type(o, "+1b");
        Sentences.due("its name in the next text", o.reads(), -12);
        o.clear();
        Made.type(o, "!F1");
        Sentences.due("its function in the next text", o.reads(), -11);
    }

    static void introducedNames() {
        Sentences.says(4, "Texts", "a name that was introduced already, or no name of the needed sort, where a name is introduced");
        for (int code = 0; code < CODES; code++) {
            char c = (char) code;
            boolean isValue = c >= 'a' && c <= 'h';
            boolean isFunction = c >= 'A' && c <= 'F';
            int blank = c == ' ' ? 1 : 0;
            Sentences.due("code " + code + " after :", Made.reads(":" + c + "11"), isValue ? 3 : -11 - blank);
            Sentences.due("code " + code + " after @", Made.reads("@" + c + "b11"), isFunction ? 3 : -11 - blank);
            Sentences.due("code " + code + " after @F", Made.reads("@F" + c + "11"), isValue ? 3 : -12 - blank);
        }
    }

    static void introducedTwice() {
        Sentences.says(4, "Programs", "In a whole program, no name is introduced more than once (by : or @)");
        Sentences.due("a binding in a binding", Made.reads(":a1:a2a"), -14);
        Sentences.due("a binding in its own first expression", Made.reads(":a:a1aa"), -13);
        Sentences.due("two bindings apart", Made.reads("+:a1a:a2a"), -16);
        Sentences.due("a binding of a parameter, in the body", Made.reads("@Fa:a11 1"), -14);
        Sentences.due("a binding of a parameter, after the body", Made.reads("@Fa1:a23"), -15);
        Sentences.due("a parameter of a binding", Made.reads(":a1@Faa1"), -15);
        Sentences.due("two parameters", Made.reads("@Faa@Eaa1"), -16);
        Sentences.due("a function in its body", Made.reads("@Fa@Fbb1"), -14);
        Sentences.due("a function after its body", Made.reads("@Faa@Fbb1"), -15);
        Sentences.due("two functions apart", Made.reads("+@Faa1@Fbb2"), -17);
        Sentences.due("of a binding that has no use", Made.reads("+:a12:a34"), -16);
        OneReturns o = Made.with(":a1a");
        Made.type(o, ":a2a");
        Sentences.due("the name of an earlier program", o.reads(), 3);
        o.type(':');
        o.type('a');
        Sentences.due("the name in a text that ends early", o.reads(), -12);
        Made.type(o, "3a");
        Sentences.due("the name when that text goes on", o.reads(), 3);
    }

    static void calledNames() {
        Sentences.says(4, "Texts", "something other than the name of a known function after !");
        for (int code = 0; code < CODES; code++) {
            char c = (char) code;
            Sentences.due("code " + code + " after !", Made.reads("@Faa!" + c + "1"), c == 'F' ? 4 : c == ' ' ? -16 : -15);
        }
        Sentences.due("no function at all", Made.reads("!A1"), -11);
        Sentences.due("before its definition", Made.reads("+!F1@Faa1"), -12);
        Sentences.due("after its definition", Made.reads("+@Faa!F1!F2"), -19);
        Sentences.due("of the body's own definition, after it", Made.reads("@Fa@Ebb!Ea!E1"), -21);
        Sentences.due("defined in the first of a binding", Made.reads(":a@Fbb!F1!F2"), -20);
    }

    static void afterTheEnd() {
        Sentences.says(4, "Texts", "anything but blanks after the end of the program.");
        for (int code = 0; code < CODES; code++) {
            Sentences.due("code " + code + " after 1", Made.reads("1" + (char) code), code == ' ' ? 1 : -11);
        }
        Sentences.due("at the last index", Made.reads("1" + " ".repeat(58) + "1"), -69);
        Sentences.due("after blanks", Made.reads("+12  3"), -15);
    }

    static void endsTooEarly() {
        Sentences.says(4, "Texts", "If the text ends too early (also if it is empty or contains only blanks), it is its length.");
        Sentences.due("empty", Made.reads(""), -10);
        Sentences.due("one blank", Made.reads(" "), -11);
        Sentences.due("60 blanks", Made.reads(" ".repeat(60)), -70);
        String[] heads = {"+", "+1", "-", "-x", "*", "*y", "?", "?1", "?12", ":", ":a", ":a1", "@", "@F", "@Fa", "@Fa1", "@Faa!", "@Faa!F", "+?123"};
        for (String head : heads) {
            Sentences.due("'" + head + "'", Made.reads(head), -10 - head.length());
            Sentences.due("'" + head + "  '", Made.reads(head + "  "), -12 - head.length());
        }
        Sentences.due("60 characters", Made.reads("?".repeat(60)), -70);
        Sentences.due("one expression is missing", Made.reads("+".repeat(30) + "1".repeat(30)), -70);
    }
}

/** What the expressions mean at their edges: promises 4 and 13, and "Programs". */
final class ProgramBoundaries {
    private ProgramBoundaries() {
    }

    private static void value(String program, int x, int y, int value) {
        OneReturns o = Made.with(program, x, y);
        Sentences.due(program + " with " + x + " and " + y, o.run(), value);
        Sentences.due("the status of " + program, o.status(), Made.OK);
    }

    static void digits() {
        Sentences.says(13, "Programs", "a digit 0 to 9: this number.");
        for (int digit = 0; digit <= 9; digit++) {
            value("" + digit, 7, 7, digit);
        }
        Sentences.due("the sign before 0", Made.reads("/"), -10);
        Sentences.due("two digits are two numbers", Made.reads("10"), -11);
    }

    static void valueNames() {
        Sentences.says(13, "Programs", "a letter a to h: the value with this name.");
        value(":a1:b2:c3:d4:e5:f6:g7:h8+a+b+c+d+e+f+gh", 0, 0, 36);
        value(":a1:b2:c3:d4:e5:f6:g7:h8-ha", 0, 0, 7);
        Sentences.due("the sign before a", Made.reads(":a1`"), -13);
        Sentences.due("the letter after h", Made.reads(":a1i"), -13);
    }

    static void inputNames() {
        Sentences.says(13, "Programs", "x or y: an input.");
        value("x", 5, 6, 5);
        value("y", 5, 6, 6);
        value("-xy", Made.MIN, Made.MIN, 0);
        Sentences.due("the letter before x", Made.reads("w"), -10);
        Sentences.due("the letter after y", Made.reads("z"), -10);
        Sentences.due("an input is never a new name", Made.reads(":x1x"), -11);
        Sentences.due("an input is never a parameter", Made.reads("@Fy1 1"), -12);
    }

    static void overflow() {
        Sentences.says(13, "Programs", "+EE, -EE, *EE: sum, difference, product (int arithmetic with overflow).");
        value("+xy", Made.MAX, 1, Made.MIN);
        value("+xy", Made.MIN, -1, Made.MAX);
        value("+xy", Made.MIN, Made.MIN, 0);
        value("+xy", Made.MAX, Made.MAX, -2);
        value("-xy", Made.MIN, 1, Made.MAX);
        value("-xy", Made.MAX, -1, Made.MIN);
        value("-xy", 0, Made.MIN, Made.MIN);
        value("*xy", Made.MIN, -1, Made.MIN);
        value("*xy", Made.MAX, Made.MAX, 1);
        value("*xy", 65536, 65536, 0);
        value("*xy", 65536, 32768, Made.MIN);
        value("*xy", 46341, 46341, -2147479015);
        value("-xy", 1, 2, -1);
    }

    static void choice() {
        Sentences.says(13, "Programs", "?EEE: a choice: the second one if the first one is 0, otherwise the third one.");
        for (int x : new int[] {1, -1, Made.MIN, Made.MAX, 65536}) {
            value("?x45", x, 0, 5);
        }
        value("?x45", 0, 9, 4);
        value("?-xy45", 7, 7, 4);
        value("?*xx45", 65536, 0, 4);
    }

    static void binding() {
        Sentences.says(13, "Programs", ":vEE: a binding; v, a to h, names the value of the first expression in the second one.");
        value(":a1a", 0, 0, 1);
        value(":h2h", 0, 0, 2);
        value(":a+xy*aa", 2, 3, 25);
        value(":a1+a:b2+ab", 0, 0, 4);
        Sentences.due("not in the first one", Made.reads(":a+a12"), -13);
    }

    static void definition() {
        Sentences.says(13, "Programs", "@FvEE: the definition of the function F, A to F, with the parameter v, a to h");
        value("@Aa+a1@Bb!Ab@Cc!Bc@Dd!Cd@Ee!De@Ff!Ef!Fx", 6, 0, 7);
        value("@Ah+h1!Ax", 1, 0, 2);
        Sentences.due("the letter after F", Made.reads("@Ga11"), -11);
        Sentences.due("the sign before A", Made.reads("@@a11"), -11);
        Sentences.due("all names at once", Made.reads("@Aaa@Bbb@Ccc@Ddd@Eee@Fff:g1:h2+!A1+!B2!Fh"), 24);
    }

    static void knownNames() {
        Sentences.says(4, "Programs", "F is known in both expressions, v in the body.");
        Sentences.due("F in the body", Made.reads("@Fa!Fa1"), 4);
        Sentences.due("F in the second one", Made.reads("@Fa1!F2"), 4);
        Sentences.due("F in an inner body", Made.reads("@Fa@Eb!Fb!Ea!F1"), 8);
        Sentences.due("v in the body", Made.reads("@Faa1"), 3);
        Sentences.due("v in an inner body", Made.reads("@Fa@Ebaa1"), 5);
        Sentences.due("v in the second one", Made.reads("@Fa1a"), -14);
        Sentences.due("v in the argument of a call", Made.reads("@Fa1!Fa"), -16);
    }

    static void usedWhereKnown() {
        Sentences.says(4, "Programs", "a name can be used only where it is known, as described.");
        Sentences.due("a function as a value", Made.reads("@FaaF"), -14);
        Sentences.due("a value as a function", Made.reads(":a1!a2"), -14);
        Sentences.due("an input as a function", Made.reads("@Faa!x1"), -15);
    }

    static void numbers() {
        Sentences.says(8, "Programs", "The expressions of a program (all subexpressions, and the program itself) are numbered from 0 in the order of their first letters; 0 is the whole program.");
        OneReturns o = Made.with("?:a1a@Fb-bb*!F345");
        String letters = "?:1a@-bb*!345";
        Sentences.due("their number", o.count(0), letters.length());
        for (int p = 0; p < letters.length(); p++) {
            Sentences.due("the letter of " + p, o.part(p, 0), letters.charAt(p));
        }
        Sentences.due("expressions of 0", o.part(0, 1), letters.length());
        Sentences.due("after the last one", o.part(letters.length(), 0), Made.BAD);
    }
}

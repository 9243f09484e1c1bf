/** "Tail calls and returns", on which promises 11, 12, 16 and 25 rest. */
final class ReturnBoundaries {
    private ReturnBoundaries() {
    }

    private static final String SECTION = "Tail calls and returns";

    /** The answers of last() for all calls of the program, in their order. */
    private static void lasts(String program, int... due) {
        OneReturns o = Made.with(program);
        int call = 0;
        for (int p = 0; p < o.count(0); p++) {
            if (o.part(p, 0) == '!') {
                Sentences.due("last(" + p + ") of " + program, o.last(p), call < due.length ? due[call] : Made.NONE);
                call++;
            }
        }
        Sentences.due("the calls of " + program, call, due.length);
    }

    private static void returns(String program, char function, int point) {
        Sentences.due("the return of " + function + " in " + program, Made.with(program).function(function, 3), point);
    }

    static void itself() {
        Sentences.says(12, SECTION, "The tail expressions of the program, and of each body, are: it itself");
        lasts("@Fa!Fa7", 1);
        lasts("+1@Fa!Fa7", 1);
        lasts("@Fa+1@Eb!Fba7", 1);
        lasts("@Faa:b@Ec!Fc12", 1);
    }

    static void choices() {
        Sentences.says(12, SECTION, "of each choice that is a tail expression, the second and the third expression");
        lasts("@Faa?!F1!F2!F3", 0, 1, 1);
        lasts("@Faa?0?1!F1!F2?2!F3!F4", 1, 1, 1, 1);
        lasts("@Faa+1?0!F2!F3", 0, 0);
        lasts("@Faa??0!F1!F234", 0, 0);
        lasts("@Fa?a1!F-a1 7", 1);
    }

    static void bindingsAndDefinitions() {
        Sentences.says(12, SECTION, "of each binding and each definition that is a tail expression, the second expression.");
        lasts("@Faa:b!F1!F2", 0, 1);
        lasts("@Faa@Ebb!F2", 1);
        lasts("@Faa+1:b2!F2", 0);
        lasts("@Faa+1@Ebb!F2", 0);
        lasts("@Faa:b:c1!F23", 0);
        lasts("@Faa:b1@Ec:d!Fc!Fd!Eb", 0, 1, 1);
    }

    static void otherCalls() {
        Sentences.says(12, SECTION, "A call that is a tail expression of the program or of a body is a tail call.");
        lasts("@Faa!F!F!F1", 1, 0, 0);
        lasts("@Faa+!F1!F2", 0, 0);
        lasts("@Faa-!F1!F2", 0, 0);
        lasts("@Faa*!F1!F2", 0, 0);
        lasts("@Fa!F!Fa!F1", 1, 0, 1);
    }

    static void bodies() {
        Sentences.says(11, SECTION, "A call is in the body of the innermost definition in whose first expression it is, or in no body.");
        // 0 @A 1 a 2 @B 3 @C 4 !A 5 c 6 + 7 1 8 !C 9 b 10 !B 11 1: the call 4 is in the body of C, not of B.
        returns("@Aaa@Bb@Cc!Ac+1!Cb!B1", 'A', 8);
        returns("@Aaa@Bb@Cc!Ac+1!Cb!B1", 'C', 8);
        returns("@Aaa@Bb@Cc!Ac+1!Cb!B1", 'B', Made.END);
        // The second expression of C's definition is in the body of B: 0 @A 1 a 2 + 3 1 4 @B 5 @C 6 c 7 !A 8 b 9 !B 10 1.
        returns("@Aaa+1@Bb@Ccc!Ab!B1", 'A', 9);
        returns("@Aaa+1@Bb@Ccc!Ab!B1", 'C', Made.NOWHERE);
        // In no body, though a definition stands around it.
        returns("@Aaa@Bbb!A1", 'A', Made.END);
    }

    static void points() {
        Sentences.says(11, "The constants:", "`NOWHERE = -11, MANY = -12, END = -13`: Returns of functions that are not the number of a call.");
        Sentences.due("NOWHERE", OneReturns.NOWHERE, -11);
        Sentences.due("MANY", OneReturns.MANY, -12);
        Sentences.due("END", OneReturns.END, -13);
        Sentences.says(11, SECTION, "The return points are END (the end of the program) and each call that is not a tail call.");
        returns("@Faa!F1", 'F', Made.END);
        returns("@Faa-1!F1", 'F', 4);
        returns("@Faa?!F112", 'F', 3);
        returns("@Faa:b!F1b", 'F', 3);
        returns("@Ebb@Faa!E!F1", 'F', 5);
    }

    static void nowhereAtFirst() {
        Sentences.says(11, SECTION, "At first, all returns are NOWHERE.");
        returns("@Faa7", 'F', Made.NOWHERE);
        returns("@Fa!Fa7", 'F', Made.NOWHERE);
        returns("@Fa?a!Fa!F-a1 7", 'F', Made.NOWHERE);
        // Two that call only one another.
        returns("@Aa@Bb!Ab!Ba7", 'A', Made.NOWHERE);
        returns("@Aa@Bb!Ab!Ba7", 'B', Made.NOWHERE);
    }

    static void againAndAgain() {
        Sentences.says(11, SECTION, "Then, again and again until nothing changes, each call, of a function F, is considered, in the order of their numbers");
        // Each function returns with the next one, whose call has a higher number: six rounds, and one more.
        String chain = "@Aaa@Bb!Ab@Cc!Bc@Dd!Cd@Ee!De@Ff!Ef";
        for (char f = 'A'; f <= 'F'; f++) {
            returns(chain + "!F1", f, Made.END);
            returns(chain + "+1!F1", f, 19);
            returns(chain + "+!F1!F2", f, Made.MANY);
            returns(chain + "7", f, Made.NOWHERE);
        }
        // A gets a point of its own at first, and END from the far end of the chain at last.
        returns(chain + ":g!A1!F1", 'A', Made.MANY);
        returns(chain + ":g!A1!F1", 'B', Made.END);
    }

    static void pointThatItGives() {
        Sentences.says(11, SECTION, "the point that it gives is the call itself if it is no tail call; otherwise END if it is in no body, and the present return of G if it is in the body of a function G (which may be F).");
        returns("@Faa+1!F1", 'F', 4);
        returns("@Fa+1!Fa7", 'F', 3);
        returns("@Faa!F1", 'F', Made.END);
        returns("@Aaa@Bb!Ab-1!B1", 'A', 7);
        returns("@Aaa@Bb!Ab-1!B1", 'B', 7);
        returns("@Fa?a1!F-a1!Fx", 'F', Made.END);
        returns("@Fa?a1!F-a1+1!Fx", 'F', 10);
        returns("@Fa?a1+1!F-a1!Fx", 'F', Made.MANY);
    }

    static void whatChanges() {
        Sentences.says(11, SECTION, "If the call gives NOWHERE or the present return of F, nothing changes; otherwise the return of F becomes what the call gives if it was NOWHERE, and MANY if not.");
        returns("@Faa?x!F1!F2", 'F', Made.END);
        returns("@Aaa@Bb!Ab!A1", 'A', Made.END);
        returns("@Aaa@Bb!Ab+1!A1", 'A', 7);
        returns("@Faa+!F1!F2", 'F', Made.MANY);
        returns("@Faa:b!F1!F2", 'F', Made.MANY);
        returns("@Faa!F!F1", 'F', Made.MANY);
        returns("@Faa++!F1!F2!F3", 'F', Made.MANY);
        returns("@Aaa@Bb!Ab+!B1!B2", 'A', Made.MANY);
        returns("@Aaa@Bb!Ab?x!A1!B1", 'A', Made.END);
        returns("@Aaa@Bb!Ab!B!A1", 'A', Made.MANY);
        returns("@Aaa@Bb!Ab!B!A1", 'B', Made.END);
    }

    static void jumps() {
        Sentences.says(11, SECTION, "A function is a jump if its return is a return point.");
        Sentences.due("END", Made.with("@Faa!F1").function('F', 4), 1);
        Sentences.due("a call", Made.with("@Faa+1!F1").function('F', 4), 1);
        Sentences.due("a call in its own body only", Made.with("@Fa+1!Fa7").function('F', 4), 1);
        Sentences.due("NOWHERE", Made.with("@Faa7").function('F', 4), 0);
        Sentences.due("NOWHERE, though it is called", Made.with("@Fa!Fa7").function('F', 4), 0);
        Sentences.due("MANY", Made.with("@Faa+!F1!F2").function('F', 4), 0);
    }

    private static void frames(String program, int x, int way0, int way1, int way2) {
        OneReturns o = Made.with(program, x, 0);
        int[] due = {way0, way1, way2};
        for (int way = 0; way < due.length; way++) {
            Sentences.due("frames(" + way + ") of " + program + " with " + x, o.frames(way), due[way]);
        }
    }

    static void waysOfFrames() {
        Sentences.says(16, SECTION, "Frames are counted in one of three ways: 0, each call has a frame; 1, each call that is no tail call; 2, each call that is neither a tail call nor a call of a jump.");
        frames("7", 0, 0, 0, 0);
        frames("@Faa!F1", 0, 1, 0, 0);
        frames("@Faa+1!F1", 0, 1, 1, 0);
        frames("@Faa+!F1!F2", 0, 1, 1, 1);
        frames("@Fa?a7!F-a1!Fx", 9, 10, 0, 0);
        frames("@Fa?a7!F-a1+1!Fx", 9, 10, 1, 0);
        frames("@Fa?a7+1!F-a1!Fx", 9, 10, 9, 9);
        // A tail call of one that is no jump has no frame, another call of it has one.
        frames("@Faa?x!F!F1!F2", 0, 1, 1, 1);
        frames("@Faa?x!F!F1!F2", 1, 1, 0, 0);
    }

    static void framesLast() {
        Sentences.says(16, SECTION, "A call has its frame from its beginning until it is over.");
        // The argument's call is over before the call begins; a call in a body is not.
        frames("@Faa!F!F!F1", 0, 1, 1, 1);
        frames("@Aaa@Bb+!Ab!A2+1!Bx", 0, 2, 2, 1);
        frames("@Faa+!F1+!F2!F3", 0, 1, 1, 1);
    }
}

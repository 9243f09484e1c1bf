/** Promises 20 to 22: observations, and the inputs that fit them. */
final class ObservationBoundaries {
    private ObservationBoundaries() {
    }

    // ---- promise 20

    static void atMostThree() {
        Sentences.says(20, "There are at most 3.");
        OneReturns o = Made.with("x");
        for (int i = 1; i <= 3; i++) {
            Sentences.due("observation " + i, o.comes(0, 5), i);
        }
        Sentences.says(20, "Returns the number of observations; FULL if there are 3.");
        Sentences.due("the fourth one", o.comes(0, 6), Made.FULL);
        Sentences.due("the fourth one again", o.comes(0, 5), Made.FULL);
        Sentences.due("how many there are", o.count(3), 3);
        Sentences.due("what fits the three", o.fits(), 1 << 5);
        o.forget();
        Sentences.due("the first one after forget()", o.comes(0, 6), 1);
        Sentences.due("what fits it", o.fits(), 1 << 6);
        Sentences.due("a second one that says the same", o.comes(0, 6), 2);
        Sentences.due("one that says something else", o.comes(0, 7), 3);
        Sentences.due("nothing fits then", o.fits(), 0);
    }

    static void anyInt() {
        Sentences.says(20, "`y`: the input y, any int");
        OneReturns o = Made.with("+xy");
        Sentences.due("comes(MAX, MIN)", o.comes(Made.MAX, Made.MIN), 1);
        Sentences.due("with overflow", o.fits(), 1 << 1);
        o.forget();
        o.comes(Made.MIN, Made.MIN);
        Sentences.due("the least y", o.fits(), 1);
        o.forget();
        Sentences.says(20, "`v`: the value, any int");
        o.comes(-10, -1);
        Sentences.due("a value that looks like BAD", o.fits(), 1 << 9);
        o.forget();
        o.comes(-9, -9);
        Sentences.due("a value that looks like NONE", o.fits(), 1);
        o.forget();
        o.comes(Made.MAX, Made.MAX);
        Sentences.due("the greatest value", o.fits(), 1);
    }

    static void unknownInput() {
        Sentences.says(20, "with an unknown x from 0 to 9, the same for all observations, and this y, the program had a value.");
        for (int v = -1; v <= 10; v++) {
            OneReturns o = Made.with("x");
            o.comes(0, v);
            Sentences.due("the value " + v, o.fits(), v >= 0 && v <= 9 ? 1 << v : 0);
        }
        OneReturns o = Made.with("*-x2-xy");
        o.comes(5, 0);
        Sentences.due("one observation", o.fits(), 1 << 2 | 1 << 5);
        o.comes(7, 0);
        Sentences.due("the same x for two", o.fits(), 1 << 2);
        o.comes(2, 9);
        Sentences.due("no x for all three", o.fits(), 0);
    }

    // ---- promise 21

    static void forgets() {
        Sentences.says(21, "Removes all observations.");
        OneReturns o = Made.with("x", 3, 4);
        o.comes(0, 5);
        o.comes(0, 6);
        Sentences.due("nothing fits", o.fits(), 0);
        o.forget();
        Sentences.due("how many there are", o.count(3), 0);
        Sentences.due("everything fits", o.fits(), 1023);
        Sentences.due("nothing else changes", Made.seen(o), "x 3 4 0 1023 1 0 0 0 0 2");
        Sentences.says(21, "Returns how many there were.");
        Sentences.due("none", o.forget(), 0);
        for (int many = 1; many <= 3; many++) {
            for (int i = 0; i < many; i++) {
                o.comes(i, i);
            }
            Sentences.due("forget()", o.forget(), many);
        }
        for (int i = 0; i < 4; i++) {
            o.comes(i, i);
        }
        Sentences.due("three, when the fourth was refused", o.forget(), 3);
    }

    // ---- promise 22

    static void bits() {
        Sentences.says(22, "Returns the set as a bit mask, bit x for x.");
        Sentences.due("no observation", new OneReturns().fits(), 1023);
        OneReturns all = Made.with("y");
        all.comes(4, 4);
        Sentences.due("all ten", all.fits(), 1023);
        all.comes(4, 5);
        Sentences.due("none", all.fits(), 0);
        OneReturns odd = Made.with("?-x0 1?-x9 1 2");
        odd.comes(0, 1);
        Sentences.due("the first and the last", odd.fits(), 1 | 1 << 9);
    }

    static void tooLongIsNotTrue() {
        Sentences.says(22, "(an observation for which the run is too long is not true; the inputs do not matter)");
        OneReturns o = Made.with("@Fa?a0!F-a1!F-xy", 100, 200);
        o.comes(4, 0);
        Sentences.due("x below 4 runs too long, and has no value 0", o.fits(), 1023 & ~15);
        Sentences.due("x stays", o.input(0), 100);
        Sentences.due("y stays", o.input(1), 200);
        o.inputs(-1, -1);
        Sentences.due("with other inputs", o.fits(), 1023 & ~15);
        o.run();
        Sentences.due("after a run that was too long", o.fits(), 1023 & ~15);
        OneReturns endless = Made.with("@Fa!Fa!F1");
        Sentences.due("no observation at all", endless.fits(), 1023);
        endless.comes(0, 0);
        Sentences.due("always too long", endless.fits(), 0);
    }

    static void justNotTooLong() {
        Sentences.says(22, "an observation for which the run is too long is not true");
        // 6(x + y) + 6 steps, and 2(x + y) + 4 open: x + y is at most 48.
        OneReturns o = Made.with("@Fa?a7!F-a1!F+xy");
        o.comes(44, 7);
        Sentences.due("x is at most 4", o.fits(), 31);
        o.forget();
        o.comes(48, 7);
        Sentences.due("x is 0", o.fits(), 1);
        o.forget();
        o.comes(49, 7);
        Sentences.due("none", o.fits(), 0);
    }

    static void presentProgram() {
        Sentences.says(22, "Returns all x from 0 to 9 for which all observations are true, by the present program");
        OneReturns o = Made.with("+xy");
        o.comes(3, 7);
        Sentences.due("a sum", o.fits(), 1 << 4);
        Made.type(o, "-xy");
        o.reads();
        Sentences.due("a difference", o.fits(), 0);
        o.undo();
        Sentences.due("the sum again", o.fits(), 1 << 4);
        o.keep(0);
        Made.type(o, "7");
        o.reads();
        Sentences.due("a number", o.fits(), 1023);
        o.back(0);
        Sentences.due("the image", o.fits(), 1 << 4);
    }
}

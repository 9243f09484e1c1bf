/** Objects made for a test, and what can be seen of them. */
final class Made {
    static final int BAD = -1, STATE = -2, FULL = -3, NONE = -9;
    static final int OK = 0, LONG = 1;
    static final int NOWHERE = -11, MANY = -12, END = -13;
    static final int MIN = Integer.MIN_VALUE, MAX = Integer.MAX_VALUE;

    private Made() {
    }

    static OneReturns typed(String text) {
        OneReturns o = new OneReturns();
        type(o, text);
        return o;
    }

    static void type(OneReturns o, String text) {
        for (int i = 0; i < text.length(); i++) {
            o.type(text.charAt(i));
        }
    }

    static OneReturns with(String program) {
        OneReturns o = typed(program);
        if (o.reads() < 1) {
            Sentences.due("'" + program + "' as a program", "refused", "read");
        }
        return o;
    }

    static OneReturns with(String program, int x, int y) {
        OneReturns o = with(program);
        if (x != 0 || y != 0) {
            o.inputs(x, y);
        }
        return o;
    }

    static int reads(String text) {
        return typed(text).reads();
    }

    static String text(OneReturns o) {
        StringBuilder s = new StringBuilder();
        int length = o.told(-1);
        for (int k = 0; k < length; k++) {
            s.append((char) o.told(k));
        }
        return s.toString();
    }

    /** All that can be asked without a change. */
    static String seen(OneReturns o) {
        StringBuilder s = new StringBuilder(text(o));
        s.append(' ').append(o.input(0)).append(' ').append(o.input(1));
        s.append(' ').append(o.status()).append(' ').append(o.fits());
        for (int what = 0; what < 6; what++) {
            s.append(' ').append(o.count(what));
        }
        return s.toString();
    }

    /** All that the object holds, brought out by changing it: the record, the text, the observations and the images. */
    static String everything(OneReturns o) {
        StringBuilder s = new StringBuilder(seen(o));
        for (int k = 0; k < 8 && o.count(5) > 0; k++) {
            s.append(" | undo ").append(o.undo()).append(' ').append(seen(o));
        }
        s.append(" | text ").append(o.reads()).append(' ').append(text(o)).append(' ').append(o.clear());
        for (int image = 0; image < 2; image++) {
            s.append(" | image ").append(o.back(image)).append(' ').append(seen(o));
        }
        for (String program : new String[] {"+xy", "-xy"}) {
            type(o, program);
            s.append(" | observations ").append(o.reads()).append(' ').append(o.fits());
        }
        return s.toString();
    }
}

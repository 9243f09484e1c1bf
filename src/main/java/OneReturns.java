/**
 * A middle end of a compiler for a tiny functional language: programs are run with counts of
 * steps and frames, tail calls and jumps are found, programs are simplified step by step, and
 * inputs are inferred from outputs.
 *
 * A program is held as its text without blanks. The text is in prefix notation, so each
 * expression is one unbroken range of it, and no simplification makes it longer: every row of
 * this class has its final length when the object is made, and no call makes another object.
 */
public final class OneReturns {
    public static final int BAD = -1, STATE = -2, FULL = -3, NONE = -9;
    public static final int OK = 0, LONG = 1;
    public static final int NOWHERE = -11, MANY = -12, END = -13;

    /** The characters of a text, and so also the most that a program has, and its expressions. */
    private static final int ROOM = 60;
    private static final int FUNCTIONS = 6;
    private static final int RECORDED = 8;
    private static final int OBSERVATIONS = 3;
    private static final int IMAGES = 2;
    private static final int GUESSES = 10;
    private static final int MOST_STEPS = 300;
    private static final int MOST_OPEN = 100;
    private static final int WAYS = 3;

    private final int[] typed;
    private int typedSize;
    private final Reader reader;
    private final Moment now;
    private final Tree tree;
    private final Flow flow;
    private final Machine machine;
    private final Shrinker shrinker;
    private final History history;
    private final Moment[] images;
    private final int[] imageHeld;
    private final int[] seenY;
    private final int[] seenValue;
    private int seen;
    private int latestStatus;

    public OneReturns() {
        typed = new int[ROOM];
        typedSize = 0;
        reader = new Reader();
        now = new Moment();
        tree = new Tree();
        flow = new Flow();
        machine = new Machine();
        shrinker = new Shrinker();
        history = new History();
        images = new Moment[IMAGES];
        for (int i = 0; i < IMAGES; i++) {
            images[i] = new Moment();
        }
        imageHeld = new int[IMAGES];
        seenY = new int[OBSERVATIONS];
        seenValue = new int[OBSERVATIONS];
        seen = 0;
        latestStatus = OK;
        analyse();
    }

    // ---- the program

    public int type(int letter) {
        if (letter < 0 || letter > 255) {
            return BAD;
        }
        if (typedSize >= ROOM) {
            return FULL;
        }
        put(typed, typedSize, letter);
        typedSize++;
        return typedSize;
    }

    public int clear() {
        int had = typedSize;
        typedSize = 0;
        return had;
    }

    public int reads() {
        int fault = reader.faultOf(typed, typedSize);
        if (fault >= 0) {
            return -10 - fault;
        }
        history.remember(now);
        now.hold(reader.signs, reader.length);
        typedSize = 0;
        analyse();
        return tree.size;
    }

    public int inputs(int x, int y) {
        if (x == now.x && y == now.y) {
            return STATE;
        }
        history.remember(now);
        now.x = x;
        now.y = y;
        return 1;
    }

    public int shrinks(int n) {
        if (n < 1 || n > 60) {
            return BAD;
        }
        shrinker.load(now.signs, now.length);
        int times = shrinker.simplify(n);
        if (times == 0) {
            return STATE;
        }
        history.remember(now);
        now.hold(shrinker.signs, shrinker.length);
        analyse();
        return times;
    }

    public int undo() {
        if (history.size == 0) {
            return STATE;
        }
        history.restore(now);
        analyse();
        return history.size;
    }

    // ---- parts

    public int part(int p, int what) {
        if (!tree.holds(p) || what < 0 || what > 3) {
            return BAD;
        }
        switch (what) {
            case 0:
                return at(tree.letter, p);
            case 1:
                return at(tree.span, p);
            case 2:
                return p == 0 ? NONE : at(tree.parent, p);
            default:
                return at(tree.depth, p);
        }
    }

    public int told(int k) {
        if (k < -1) {
            return BAD;
        }
        if (k == -1) {
            return now.length;
        }
        return k < now.length ? at(now.signs, k) : NONE;
    }

    public int uses(int letter) {
        if (!Letters.isValue(letter) && !Letters.isInput(letter)) {
            return BAD;
        }
        return tree.usesIn(0, letter);
    }

    public int function(int letter, int what) {
        if (!Letters.isFunction(letter) || what < 0 || what > 4) {
            return BAD;
        }
        int definition = flow.definitionOf(letter);
        if (definition < 0) {
            return NONE;
        }
        switch (what) {
            case 0:
                return definition;
            case 1:
                return tree.callsIn(0, letter);
            case 2:
                return flow.tailCallsOf(tree, letter);
            case 3:
                return flow.returnOf(letter);
            default:
                return flow.isJump(letter) ? 1 : 0;
        }
    }

    public int last(int p) {
        if (!tree.holds(p)) {
            return BAD;
        }
        if (at(tree.letter, p) != '!') {
            return NONE;
        }
        return flow.isTail(p) ? 1 : 0;
    }

    // ---- run

    public int run() {
        machine.execute(tree, flow, now.x, now.y);
        latestStatus = machine.tooLong ? LONG : OK;
        return machine.tooLong ? 0 : machine.value;
    }

    public int status() {
        return latestStatus;
    }

    public int cost(int what) {
        if (what < 0 || what > 2) {
            return BAD;
        }
        machine.execute(tree, flow, now.x, now.y);
        if (machine.tooLong) {
            return NONE;
        }
        switch (what) {
            case 0:
                return machine.steps;
            case 1:
                return machine.calls;
            default:
                // Every call has a frame when frames are counted in way 0.
                return at(machine.mostFrames, 0);
        }
    }

    public int frames(int way) {
        if (way < 0 || way >= WAYS) {
            return BAD;
        }
        machine.execute(tree, flow, now.x, now.y);
        return machine.tooLong ? NONE : at(machine.mostFrames, way);
    }

    public int often(int p) {
        if (!tree.holds(p)) {
            return BAD;
        }
        machine.execute(tree, flow, now.x, now.y);
        return machine.tooLong ? NONE : at(machine.begun, p);
    }

    // ---- shrunk

    public int next(int what) {
        if (what < 0 || what > 1) {
            return BAD;
        }
        shrinker.load(now.signs, now.length);
        if (!shrinker.find()) {
            return NONE;
        }
        return what == 0 ? shrinker.place : shrinker.rule;
    }

    public int shortest(int what) {
        if (what < 0 || what > 1) {
            return BAD;
        }
        shrinker.load(now.signs, now.length);
        int times = shrinker.simplify(ROOM);
        return what == 0 ? times : shrinker.tree.size;
    }

    // ---- which number came in

    public int comes(int y, int v) {
        if (seen >= OBSERVATIONS) {
            return FULL;
        }
        put(seenY, seen, y);
        put(seenValue, seen, v);
        seen++;
        return seen;
    }

    public int forget() {
        int had = seen;
        seen = 0;
        return had;
    }

    public int fits() {
        int set = 0;
        for (int x = 0; x < GUESSES; x++) {
            if (agrees(x)) {
                set |= 1 << x;
            }
        }
        return set;
    }

    // ---- images

    public int keep(int image) {
        Moment held = momentAt(images, image);
        if (held == null) {
            return BAD;
        }
        held.become(now);
        put(imageHeld, image, 1);
        return tree.size;
    }

    public int back(int image) {
        Moment held = momentAt(images, image);
        if (held == null) {
            return BAD;
        }
        if (at(imageHeld, image) == 0) {
            return STATE;
        }
        now.become(held);
        history.size = 0;
        analyse();
        return tree.size;
    }

    public int count(int what) {
        switch (what) {
            case 0:
                return tree.size;
            case 1:
                return flow.functions();
            case 2:
                return flow.jumps();
            case 3:
                return seen;
            case 4:
                return typedSize;
            case 5:
                return history.size;
            default:
                return BAD;
        }
    }

    public int input(int which) {
        if (which == 0) {
            return now.x;
        }
        return which == 1 ? now.y : 0;
    }

    private void analyse() {
        tree.build(now.signs, now.length);
        flow.trace(tree);
    }

    private boolean agrees(int x) {
        for (int i = 0; i < seen; i++) {
            machine.execute(tree, flow, x, at(seenY, i));
            if (machine.tooLong || machine.value != at(seenValue, i)) {
                return false;
            }
        }
        return true;
    }

    // Every row is read and written through these, so that no index goes unlooked at.

    private static int at(int[] row, int index) {
        return index >= 0 && index < row.length ? row[index] : 0;
    }

    private static void put(int[] row, int index, int value) {
        if (index >= 0 && index < row.length) {
            row[index] = value;
        }
    }

    private static Moment momentAt(Moment[] row, int index) {
        return index >= 0 && index < row.length ? row[index] : null;
    }

    /** What the single letters of the language mean. */
    private static final class Letters {
        static boolean isDigit(int c) {
            return c >= '0' && c <= '9';
        }

        static boolean isValue(int c) {
            return c >= 'a' && c <= 'h';
        }

        static boolean isFunction(int c) {
            return c >= 'A' && c <= 'F';
        }

        static boolean isInput(int c) {
            return c == 'x' || c == 'y';
        }

        static boolean isOperator(int c) {
            return c == '+' || c == '-' || c == '*';
        }

        /** How many expressions are immediate parts of one that begins with c. */
        static int partsOf(int c) {
            if (isOperator(c) || c == ':' || c == '@') {
                return 2;
            }
            if (c == '?') {
                return 3;
            }
            return c == '!' ? 1 : 0;
        }

        /** How many characters stand before the first part of an expression that begins with c. */
        static int headOf(int c) {
            if (c == '@') {
                return 3;
            }
            return c == ':' || c == '!' ? 2 : 1;
        }

        static int operate(int operator, int left, int right) {
            if (operator == '+') {
                return left + right;
            }
            return operator == '-' ? left - right : left * right;
        }

        /** A bit of its own for each name, so that a set of names is an int; 0 for no name. */
        static int bitOf(int c) {
            if (isValue(c)) {
                return 1 << (c - 'a');
            }
            return isFunction(c) ? 1 << (8 + c - 'A') : 0;
        }
    }

    /** A program and the inputs at one time: what can be undone to, and what images hold. */
    private static final class Moment {
        final int[] signs;
        int length;
        int x;
        int y;

        Moment() {
            signs = new int[ROOM];
            signs[0] = '0';
            length = 1;
            x = 0;
            y = 0;
        }

        void hold(int[] otherSigns, int otherLength) {
            length = Math.min(otherLength, ROOM);
            for (int i = 0; i < length; i++) {
                put(signs, i, at(otherSigns, i));
            }
        }

        void become(Moment other) {
            hold(other.signs, other.length);
            x = other.x;
            y = other.y;
        }
    }

    /** The moments before the latest actions, in a ring. */
    private static final class History {
        private final Moment[] past;
        private int oldest;
        int size;

        History() {
            past = new Moment[RECORDED];
            for (int i = 0; i < RECORDED; i++) {
                past[i] = new Moment();
            }
            oldest = 0;
            size = 0;
        }

        void remember(Moment moment) {
            if (size == RECORDED) {
                oldest = (oldest + 1) % RECORDED;
                size--;
            }
            Moment slot = momentAt(past, (oldest + size) % RECORDED);
            if (slot != null) {
                slot.become(moment);
            }
            size++;
        }

        void restore(Moment moment) {
            if (size == 0) {
                return;
            }
            size--;
            Moment slot = momentAt(past, (oldest + size) % RECORDED);
            if (slot != null) {
                moment.become(slot);
            }
        }
    }

    /**
     * Reads a text character by character; the expressions that still miss parts are on a stack,
     * each with the names that are known in its first part only by it, and in its second part.
     * A name is introduced only once, so it can be taken out of the known ones without looking
     * for an outer meaning.
     */
    private static final class Reader {
        private static final int EXPRESSION = 0, VALUE = 1, DEFINED = 2, PARAMETER = 3, CALLED = 4, BLANKS = 5;

        final int[] signs;
        int length;
        private final int[] missing;
        private final int[] inFirst;
        private final int[] inSecond;
        private int open;
        private int wanted;
        private int known;
        private int introduced;
        private int defined;

        Reader() {
            signs = new int[ROOM];
            missing = new int[ROOM];
            inFirst = new int[ROOM];
            inSecond = new int[ROOM];
        }

        /** The error position; -1 if there is none, and then the program is in signs. */
        int faultOf(int[] text, int size) {
            length = 0;
            open = 0;
            wanted = EXPRESSION;
            known = 0;
            introduced = 0;
            defined = 0;
            for (int i = 0; i < size; i++) {
                int c = at(text, i);
                if (c == ' ') {
                    continue;
                }
                if (!takes(c)) {
                    return i;
                }
                put(signs, length, c);
                length++;
            }
            return wanted == BLANKS ? -1 : size;
        }

        private boolean takes(int c) {
            switch (wanted) {
                case EXPRESSION:
                    return takesFirstLetter(c);
                case VALUE:
                    return takesBound(c);
                case DEFINED:
                    return takesDefined(c);
                case PARAMETER:
                    return takesParameter(c);
                case CALLED:
                    return takesCalled(c);
                default:
                    return false;
            }
        }

        private boolean takesFirstLetter(int c) {
            if (Letters.isDigit(c) || Letters.isInput(c) || (Letters.isValue(c) && isKnown(c))) {
                endExpression();
                return true;
            }
            if (Letters.isOperator(c) || c == '?') {
                openExpression(Letters.partsOf(c), 0, 0);
                return true;
            }
            if (c == ':') {
                wanted = VALUE;
            } else if (c == '@') {
                wanted = DEFINED;
            } else if (c == '!') {
                wanted = CALLED;
            } else {
                return false;
            }
            return true;
        }

        private boolean takesBound(int c) {
            if (!Letters.isValue(c) || !introduces(c)) {
                return false;
            }
            openExpression(2, 0, Letters.bitOf(c));
            return true;
        }

        private boolean takesDefined(int c) {
            if (!Letters.isFunction(c) || !introduces(c)) {
                return false;
            }
            defined = Letters.bitOf(c);
            wanted = PARAMETER;
            return true;
        }

        private boolean takesParameter(int c) {
            if (!Letters.isValue(c) || !introduces(c)) {
                return false;
            }
            openExpression(2, defined | Letters.bitOf(c), defined);
            return true;
        }

        private boolean takesCalled(int c) {
            if (!Letters.isFunction(c) || !isKnown(c)) {
                return false;
            }
            openExpression(1, 0, 0);
            return true;
        }

        private boolean isKnown(int c) {
            return (known & Letters.bitOf(c)) != 0;
        }

        private boolean introduces(int c) {
            int bit = Letters.bitOf(c);
            boolean isNew = (introduced & bit) == 0;
            introduced |= bit;
            return isNew;
        }

        private void openExpression(int parts, int first, int second) {
            put(missing, open, parts);
            put(inFirst, open, first);
            put(inSecond, open, second);
            open++;
            known |= first;
            wanted = EXPRESSION;
        }

        /** An expression has ended, and with it all around it whose last part it is. */
        private void endExpression() {
            for (int k = 0; k < ROOM && open > 0; k++) {
                int top = open - 1;
                int left = at(missing, top) - 1;
                put(missing, top, left);
                if (left > 0) {
                    known = (known & ~at(inFirst, top)) | at(inSecond, top);
                    wanted = EXPRESSION;
                    return;
                }
                known &= ~at(inSecond, top);
                open--;
            }
            wanted = BLANKS;
        }
    }

    /** The expressions of a program, by their numbers. */
    private static final class Tree {
        int size;
        final int[] letter;
        /** The name that : or @ introduces or ! calls, and the parameter of an @. */
        final int[] name;
        final int[] parameter;
        /** The range in the text: its first index, and the one after its last. */
        final int[] start;
        final int[] end;
        /** How many expressions it has, itself included. */
        final int[] span;
        final int[] parent;
        /** Which part of its parent it is, from 0. */
        final int[] place;
        final int[] depth;
        private final int[] missing;

        Tree() {
            size = 0;
            letter = new int[ROOM];
            name = new int[ROOM];
            parameter = new int[ROOM];
            start = new int[ROOM];
            end = new int[ROOM];
            span = new int[ROOM];
            parent = new int[ROOM];
            place = new int[ROOM];
            depth = new int[ROOM];
            missing = new int[ROOM];
        }

        void build(int[] signs, int length) {
            size = 0;
            int around = -1;
            int index = 0;
            for (int k = 0; k < ROOM && index < length; k++) {
                int p = size;
                size++;
                addExpression(p, around, signs, index);
                index += Letters.headOf(at(signs, index));
                around = endAll(p, index);
            }
        }

        private void addExpression(int p, int around, int[] signs, int index) {
            int c = at(signs, index);
            int head = Letters.headOf(c);
            put(letter, p, c);
            put(name, p, head > 1 ? at(signs, index + 1) : 0);
            put(parameter, p, head > 2 ? at(signs, index + 2) : 0);
            put(start, p, index);
            put(parent, p, around);
            put(missing, p, Letters.partsOf(c));
            if (around < 0) {
                put(place, p, 0);
                put(depth, p, 0);
            } else {
                put(place, p, Letters.partsOf(at(letter, around)) - at(missing, around));
                put(depth, p, at(depth, around) + 1);
            }
        }

        /** Ends p, and what is around it, as far as nothing is missing; the one that goes on, or -1. */
        private int endAll(int p, int index) {
            int q = p;
            for (int k = 0; k < ROOM && q >= 0 && at(missing, q) == 0; k++) {
                put(end, q, index);
                put(span, q, size - q);
                q = at(parent, q);
                if (q >= 0) {
                    put(missing, q, at(missing, q) - 1);
                }
            }
            return q;
        }

        boolean holds(int p) {
            return p >= 0 && p < size;
        }

        int first(int p) {
            return p + 1;
        }

        int second(int p) {
            return p + 1 + at(span, p + 1);
        }

        int third(int p) {
            int q = p + 1 + at(span, p + 1);
            return q + at(span, q);
        }

        int usesIn(int p, int wantedLetter) {
            int found = 0;
            int after = p + at(span, p);
            for (int q = p; q < after; q++) {
                if (at(letter, q) == wantedLetter) {
                    found++;
                }
            }
            return found;
        }

        int callsIn(int p, int called) {
            int found = 0;
            int after = p + at(span, p);
            for (int q = p; q < after; q++) {
                if (at(letter, q) == '!' && at(name, q) == called) {
                    found++;
                }
            }
            return found;
        }
    }

    /** Where functions are defined, which calls are tail calls, and where functions return to. */
    private static final class Flow {
        private final int[] tail;
        /** The function in whose body an expression is, 0 if it is in none. */
        private final int[] body;
        /** By call, how many ways of counting frames give it one: way 0, ways 0 and 1, or all. */
        private final int[] ways;
        private final int[] definition;
        private final int[] comeback;

        Flow() {
            tail = new int[ROOM];
            body = new int[ROOM];
            ways = new int[ROOM];
            definition = new int[FUNCTIONS];
            comeback = new int[FUNCTIONS];
        }

        void trace(Tree tree) {
            for (int f = 0; f < FUNCTIONS; f++) {
                put(definition, f, NONE);
                put(comeback, f, NOWHERE);
            }
            for (int p = 0; p < tree.size; p++) {
                placeExpression(tree, p);
                if (at(tree.letter, p) == '@') {
                    put(definition, at(tree.name, p) - 'A', p);
                }
            }
            // A return changes at most twice, so this many rounds are more than are needed.
            boolean changed = true;
            for (int round = 0; round < 3 * FUNCTIONS && changed; round++) {
                changed = considerAll(tree);
            }
            for (int p = 0; p < tree.size; p++) {
                int withJump = isJump(at(tree.name, p)) ? 2 : 3;
                put(ways, p, isTail(p) ? 1 : withJump);
            }
        }

        private void placeExpression(Tree tree, int p) {
            if (p == 0) {
                put(tail, p, 1);
                put(body, p, 0);
                return;
            }
            int around = at(tree.parent, p);
            int c = at(tree.letter, around);
            boolean isFirst = at(tree.place, p) == 0;
            if (c == '@' && isFirst) {
                put(tail, p, 1);
                put(body, p, at(tree.name, around));
                return;
            }
            boolean handsOn = (c == '?' || c == ':' || c == '@') && !isFirst;
            put(tail, p, handsOn ? at(tail, around) : 0);
            put(body, p, at(body, around));
        }

        private boolean considerAll(Tree tree) {
            boolean changed = false;
            for (int p = 0; p < tree.size; p++) {
                if (at(tree.letter, p) == '!' && consider(p, at(tree.name, p) - 'A')) {
                    changed = true;
                }
            }
            return changed;
        }

        private boolean consider(int p, int f) {
            int given = givenBy(p);
            int present = at(comeback, f);
            if (given == NOWHERE || given == present || present == MANY) {
                return false;
            }
            put(comeback, f, present == NOWHERE ? given : MANY);
            return true;
        }

        private int givenBy(int p) {
            if (at(tail, p) == 0) {
                return p;
            }
            int around = at(body, p);
            return around == 0 ? END : at(comeback, around - 'A');
        }

        boolean isTail(int p) {
            return at(tail, p) == 1;
        }

        int waysOf(int call) {
            return at(ways, call);
        }

        /** The number of the defining expression, negative if there is none. */
        int definitionOf(int letter) {
            return at(definition, letter - 'A');
        }

        int returnOf(int letter) {
            return at(comeback, letter - 'A');
        }

        boolean isJump(int letter) {
            int point = returnOf(letter);
            return point != NOWHERE && point != MANY;
        }

        int tailCallsOf(Tree tree, int letter) {
            int found = 0;
            for (int p = 0; p < tree.size; p++) {
                if (at(tree.letter, p) == '!' && at(tree.name, p) == letter && isTail(p)) {
                    found++;
                }
            }
            return found;
        }

        int functions() {
            int found = 0;
            for (int f = 0; f < FUNCTIONS; f++) {
                if (at(definition, f) >= 0) {
                    found++;
                }
            }
            return found;
        }

        int jumps() {
            int found = 0;
            for (int f = 0; f < FUNCTIONS; f++) {
                if (at(definition, f) >= 0 && isJump('A' + f)) {
                    found++;
                }
            }
            return found;
        }
    }

    /**
     * Evaluates a program with a stack of the open expressions. A scope is a chain of names: each
     * binding, definition and call that is evaluated adds one link, so there are never more links
     * than steps. The link of a function is where its body's scope hangs, wherever it is called.
     */
    private static final class Machine {
        boolean tooLong;
        int value;
        int steps;
        int calls;
        /** By expression, how often its evaluation began. */
        final int[] begun;
        final int[] mostFrames;
        private final int[] presentFrames;
        private final int[] openExpression;
        private final int[] openScope;
        private final int[] openStage;
        private final int[] openLeft;
        private int open;
        private final int[] linkName;
        private final int[] linkValue;
        private final int[] linkOuter;
        private int links;
        private int inputX;
        private int inputY;

        Machine() {
            begun = new int[ROOM];
            mostFrames = new int[WAYS];
            presentFrames = new int[WAYS];
            openExpression = new int[MOST_OPEN];
            openScope = new int[MOST_OPEN];
            openStage = new int[MOST_OPEN];
            openLeft = new int[MOST_OPEN];
            linkName = new int[MOST_STEPS];
            linkValue = new int[MOST_STEPS];
            linkOuter = new int[MOST_STEPS];
        }

        void execute(Tree tree, Flow flow, int x, int y) {
            restart(x, y);
            begin(0, -1);
            // Each turn begins one expression or ends one.
            for (int turn = 0; turn <= 2 * MOST_STEPS && open > 0 && !tooLong; turn++) {
                goOn(tree, flow);
            }
        }

        private void restart(int x, int y) {
            inputX = x;
            inputY = y;
            tooLong = false;
            value = 0;
            steps = 0;
            calls = 0;
            open = 0;
            links = 0;
            for (int p = 0; p < ROOM; p++) {
                put(begun, p, 0);
            }
            for (int way = 0; way < WAYS; way++) {
                put(mostFrames, way, 0);
                put(presentFrames, way, 0);
            }
        }

        private void begin(int p, int scope) {
            if (steps >= MOST_STEPS || open >= MOST_OPEN) {
                tooLong = true;
                return;
            }
            steps++;
            put(begun, p, at(begun, p) + 1);
            put(openExpression, open, p);
            put(openScope, open, scope);
            put(openStage, open, 0);
            open++;
        }

        private void give(int result) {
            value = result;
            open--;
        }

        /** Takes up the innermost open expression; its stage tells how many parts have values. */
        private void goOn(Tree tree, Flow flow) {
            int top = open - 1;
            int p = at(openExpression, top);
            int scope = at(openScope, top);
            int stage = at(openStage, top);
            put(openStage, top, stage + 1);
            int c = at(tree.letter, p);
            if (Letters.isOperator(c)) {
                operates(tree, p, scope, stage);
            } else if (c == '?') {
                chooses(tree, p, scope, stage);
            } else if (c == ':') {
                binds(tree, p, scope, stage);
            } else if (c == '@') {
                defines(tree, p, scope, stage);
            } else if (c == '!') {
                callsFunction(tree, flow, p, scope, stage);
            } else {
                give(simpleValue(c, scope));
            }
        }

        private void operates(Tree tree, int p, int scope, int stage) {
            int top = open - 1;
            if (stage == 0) {
                begin(tree.first(p), scope);
            } else if (stage == 1) {
                put(openLeft, top, value);
                begin(tree.second(p), scope);
            } else {
                give(Letters.operate(at(tree.letter, p), at(openLeft, top), value));
            }
        }

        private void chooses(Tree tree, int p, int scope, int stage) {
            if (stage == 0) {
                begin(tree.first(p), scope);
            } else if (stage == 1) {
                begin(value == 0 ? tree.second(p) : tree.third(p), scope);
            } else {
                give(value);
            }
        }

        private void binds(Tree tree, int p, int scope, int stage) {
            if (stage == 0) {
                begin(tree.first(p), scope);
            } else if (stage == 1) {
                begin(tree.second(p), link(scope, at(tree.name, p), value));
            } else {
                give(value);
            }
        }

        private void defines(Tree tree, int p, int scope, int stage) {
            if (stage == 0) {
                begin(tree.second(p), link(scope, at(tree.name, p), 0));
            } else {
                give(value);
            }
        }

        private void callsFunction(Tree tree, Flow flow, int p, int scope, int stage) {
            int called = at(tree.name, p);
            if (stage == 0) {
                begin(tree.first(p), scope);
            } else if (stage == 1) {
                calls++;
                countFrames(flow.waysOf(p), 1);
                int definition = flow.definitionOf(called);
                int inner = link(find(scope, called), at(tree.parameter, definition), value);
                begin(tree.first(definition), inner);
            } else {
                countFrames(flow.waysOf(p), -1);
                give(value);
            }
        }

        private void countFrames(int ways, int change) {
            for (int way = 0; way < ways; way++) {
                int present = at(presentFrames, way) + change;
                put(presentFrames, way, present);
                put(mostFrames, way, Math.max(present, at(mostFrames, way)));
            }
        }

        private int link(int outer, int name, int named) {
            int added = links;
            put(linkName, added, name);
            put(linkValue, added, named);
            put(linkOuter, added, outer);
            links++;
            return added;
        }

        private int find(int scope, int name) {
            int s = scope;
            for (int k = 0; k < MOST_STEPS && s >= 0 && at(linkName, s) != name; k++) {
                s = at(linkOuter, s);
            }
            return s;
        }

        private int simpleValue(int c, int scope) {
            if (Letters.isDigit(c)) {
                return c - '0';
            }
            if (c == 'x') {
                return inputX;
            }
            return c == 'y' ? inputY : at(linkValue, find(scope, c));
        }
    }

    /** Simplifies a program of its own, into which the one in question is loaded. */
    private static final class Shrinker {
        final int[] signs;
        int length;
        final Tree tree;
        /** What find() found: the expression that is simplified next, and by which rule. */
        int place;
        int rule;
        private final int[] built;
        private int builtLength;

        Shrinker() {
            signs = new int[ROOM];
            built = new int[ROOM];
            tree = new Tree();
        }

        void load(int[] otherSigns, int otherLength) {
            length = Math.min(otherLength, ROOM);
            for (int i = 0; i < length; i++) {
                put(signs, i, at(otherSigns, i));
            }
            tree.build(signs, length);
        }

        int simplify(int most) {
            int times = 0;
            for (int k = 0; k < most && find(); k++) {
                apply();
                load(built, builtLength);
                times++;
            }
            return times;
        }

        boolean find() {
            for (int p = 0; p < tree.size; p++) {
                int found = ruleFor(p);
                if (found > 0) {
                    place = p;
                    rule = found;
                    return true;
                }
            }
            return false;
        }

        private int ruleFor(int p) {
            int c = at(tree.letter, p);
            if (Letters.isOperator(c)) {
                return ruleForOperator(p);
            }
            if (c == '?') {
                return Letters.isDigit(at(tree.letter, tree.first(p))) ? 2 : 0;
            }
            if (c == ':') {
                return ruleForBinding(p);
            }
            return c == '@' ? ruleForDefinition(p) : 0;
        }

        private int ruleForOperator(int p) {
            int left = at(tree.letter, tree.first(p));
            int right = at(tree.letter, tree.second(p));
            if (!Letters.isDigit(left) || !Letters.isDigit(right)) {
                return 0;
            }
            int result = Letters.operate(at(tree.letter, p), left - '0', right - '0');
            return result >= 0 && result <= 9 ? 1 : 0;
        }

        private int ruleForBinding(int p) {
            int first = tree.first(p);
            int c = at(tree.letter, first);
            int used = tree.usesIn(tree.second(p), at(tree.name, p));
            boolean callFree = tree.usesIn(first, '!') == 0;
            if (used == 0 && callFree) {
                return 3;
            }
            if (Letters.isDigit(c) || Letters.isValue(c) || Letters.isInput(c)) {
                return 4;
            }
            return used == 1 && callFree ? 5 : 0;
        }

        private int ruleForDefinition(int p) {
            int f = at(tree.name, p);
            int inSecond = tree.callsIn(tree.second(p), f);
            if (inSecond == 0) {
                return 6;
            }
            return inSecond == 1 && tree.callsIn(tree.first(p), f) == 0 ? 7 : 0;
        }

        private void apply() {
            builtLength = 0;
            copyRange(0, at(tree.start, place));
            switch (rule) {
                case 1:
                    copyResult();
                    break;
                case 2:
                    copyExpression(chosen());
                    break;
                case 4:
                case 5:
                    copyReplaced();
                    break;
                case 7:
                    copyInlined();
                    break;
                default:
                    copyExpression(tree.second(place));
                    break;
            }
            copyRange(at(tree.end, place), length);
        }

        private int chosen() {
            boolean isZero = at(tree.letter, tree.first(place)) == '0';
            return isZero ? tree.second(place) : tree.third(place);
        }

        private void copyResult() {
            int left = at(tree.letter, tree.first(place)) - '0';
            int right = at(tree.letter, tree.second(place)) - '0';
            copySign('0' + Letters.operate(at(tree.letter, place), left, right));
        }

        /** The second part of the binding, with its first part in place of each use of the name. */
        private void copyReplaced() {
            int second = tree.second(place);
            int name = at(tree.name, place);
            int after = second + at(tree.span, second);
            for (int q = second; q < after; q++) {
                int c = at(tree.letter, q);
                if (c == name) {
                    copyExpression(tree.first(place));
                } else {
                    int from = at(tree.start, q);
                    copyRange(from, from + Letters.headOf(c));
                }
            }
        }

        /** The second part of the definition, with a binding in place of the only call. */
        private void copyInlined() {
            int second = tree.second(place);
            int call = onlyCall(second, at(tree.name, place));
            copyRange(at(tree.start, second), at(tree.start, call));
            copySign(':');
            copySign(at(tree.parameter, place));
            copyExpression(tree.first(call));
            copyExpression(tree.first(place));
            copyRange(at(tree.end, call), at(tree.end, second));
        }

        private int onlyCall(int p, int f) {
            int after = p + at(tree.span, p);
            for (int q = p; q < after; q++) {
                if (at(tree.letter, q) == '!' && at(tree.name, q) == f) {
                    return q;
                }
            }
            return p;
        }

        private void copyExpression(int p) {
            copyRange(at(tree.start, p), at(tree.end, p));
        }

        private void copyRange(int from, int to) {
            for (int i = from; i < to; i++) {
                copySign(at(signs, i));
            }
        }

        private void copySign(int c) {
            if (builtLength >= 0 && builtLength < built.length) {
                built[builtLength] = c;
                builtLength++;
            }
        }
    }
}

import java.util.ArrayDeque;
import java.util.ArrayList;
import java.util.Deque;
import java.util.HashMap;
import java.util.HashSet;
import java.util.List;
import java.util.Map;
import java.util.Random;
import java.util.Set;
import java.util.TreeMap;

/** Random runs of calls, each answer compared with that of a model that is written in another way: recursively, on trees of objects. */
public final class ReferenceTest {
    private static final int OBJECTS = 4000;
    private static final int CALLS = 512;
    private static final int SWEPT = 6000;
    private static int wrong = 0;

    public static void main(String[] args) {
        Random random = new Random(20261118);
        Map<String, Integer> met = new TreeMap<>();
        for (int i = 0; i < OBJECTS && wrong < 5; i++) {
            oneObject(random, met);
        }
        for (int i = 0; i < SWEPT && wrong < 5; i++) {
            sweep(random, met);
        }
        // The comparison says little if the random runs never come to these.
        String[] needed = {"rule 1", "rule 2", "rule 3", "rule 4", "rule 5", "rule 6", "rule 7", "long", "deep",
            "jump", "END", "NOWHERE", "MANY", "point", "fewer frames 1", "fewer frames 2", "error", "fits"};
        for (String what : needed) {
            if (met.getOrDefault(what, 0) < 20) {
                wrong++;
                System.out.println("met too seldom: " + what + " " + met.get(what));
            }
        }
        System.out.println(met);
        System.out.println(wrong == 0 ? "program and model agree" : wrong + " faults");
        if (wrong != 0) {
            System.exit(1);
        }
    }

    /** Everything that can be asked of one program, and of what it becomes when it is simplified. */
    private static void sweep(Random random, Map<String, Integer> met) {
        String text = new Maker(random).text();
        for (int k = 0; k < 20 && (text.length() > 60 || text.length() < 12); k++) {
            text = new Maker(random).text();
        }
        OneReturns o = new OneReturns();
        Model m = new Model();
        for (int i = 0; i < text.length(); i++) {
            compare(o, m, new int[] {0, text.charAt(i), 0}, met);
        }
        compare(o, m, new int[] {2, 0, 0}, met);
        for (int round = 0; round < 60 && wrong == 0; round++) {
            compare(o, m, new int[] {3, random.nextInt(8), random.nextInt(8) - 1}, met);
            askAll(o, m, met);
            int before = m.program.all().size();
            compare(o, m, new int[] {4, 1, 0}, met);
            if (m.program.all().size() == before) {
                break;
            }
        }
    }

    private static void askAll(OneReturns o, Model m, Map<String, Integer> met) {
        int size = m.program.all().size();
        for (int p = 0; p < size; p++) {
            for (int what = 0; what < 4; what++) {
                compare(o, m, new int[] {6, p, what}, met);
            }
            compare(o, m, new int[] {10, p, 0}, met);
            compare(o, m, new int[] {15, p, 0}, met);
        }
        for (int k = -1; k <= m.program.text().length(); k++) {
            compare(o, m, new int[] {7, k, 0}, met);
        }
        for (int f = 'A'; f <= 'F'; f++) {
            for (int what = 0; what < 5; what++) {
                compare(o, m, new int[] {9, f, what}, met);
            }
        }
        for (char c : "abcdefghxy".toCharArray()) {
            compare(o, m, new int[] {8, c, 0}, met);
        }
        int[][] others = {{13, 0, 0}, {11, 0, 0}, {12, 0, 0}, {12, 1, 0}, {12, 2, 0}, {14, 0, 0}, {14, 1, 0}, {14, 2, 0},
            {16, 0, 0}, {16, 1, 0}, {17, 0, 0}, {17, 1, 0}, {23, 0, 0}, {23, 1, 0}, {23, 2, 0}, {23, 5, 0}};
        for (int[] call : others) {
            compare(o, m, call, met);
        }
    }

    private static boolean compare(OneReturns o, Model m, int[] call, Map<String, Integer> met) {
        int got = onProgram(o, call);
        int want = m.answer(call);
        note(call, want, m, met);
        if (got != want) {
            wrong++;
            System.out.println("call " + call[0] + "(" + call[1] + ", " + call[2] + ") answered " + got + ", due is " + want
                + ", program " + m.program.text() + ", inputs " + m.x + " " + m.y + ", text " + m.text);
        }
        return got == want;
    }

    private static void oneObject(Random random, Map<String, Integer> met) {
        OneReturns o = new OneReturns();
        Model m = new Model();
        List<String> calls = new ArrayList<>();
        Deque<int[]> ahead = new ArrayDeque<>();
        for (int c = 0; c < CALLS; c++) {
            int[] call = ahead.isEmpty() ? anyCall(random, m, ahead) : ahead.poll();
            calls.add(call[0] + "(" + call[1] + "," + call[2] + ")");
            if (!compare(o, m, call, met)) {
                System.out.println(calls);
                return;
            }
        }
    }

    private static void note(int[] call, int want, Model m, Map<String, Integer> met) {
        if (call[0] == 16 && call[1] == 1 && want > 0) {
            met.merge("rule " + want, 1, Integer::sum);
        }
        if (call[0] == 13 && want == 0) {
            met.merge(m.latest == 1 ? "long" : "zero", 1, Integer::sum);
        }
        if (call[0] == 13 && m.latest == 0 && new Run(m.program, m.x, m.y).most[0] > 3) {
            met.merge("deep", 1, Integer::sum);
        }
        if (call[0] == 9 && call[2] == 3 && want != -1 && want != -9) {
            met.merge(want == -11 ? "NOWHERE" : want == -12 ? "MANY" : want == -13 ? "END" : "point", 1, Integer::sum);
        }
        if (call[0] == 9 && call[2] == 4 && want == 1) {
            met.merge("jump", 1, Integer::sum);
        }
        if (call[0] == 14 && (call[1] == 1 || call[1] == 2) && want >= 0) {
            Run r = new Run(m.program, m.x, m.y);
            if (r.most[call[1]] < r.most[call[1] - 1]) {
                met.merge("fewer frames " + call[1], 1, Integer::sum);
            }
        }
        if (call[0] == 2 && want < 0) {
            met.merge("error", 1, Integer::sum);
        }
        if (call[0] == 20 && want > 0 && want < 1023) {
            met.merge("fits", 1, Integer::sum);
        }
    }

    private static int[] anyCall(Random random, Model m, Deque<int[]> ahead) {
        int kind = random.nextInt(40);
        if (kind < 3) {
            String text = new Maker(random).text();
            for (int i = 0; i < text.length(); i++) {
                ahead.add(new int[] {0, text.charAt(i), 0});
            }
            ahead.add(new int[] {2, 0, 0});
            return random.nextInt(8) == 0 ? ahead.poll() : new int[] {1, 0, 0};
        }
        int size = m.program.all().size();
        int p = random.nextInt(30) == 0 ? any(random) : random.nextInt(size + 2) - 1;
        switch (kind) {
            case 3: return new int[] {2, 0, 0};
            case 4: case 5: case 6: case 7: case 8: return new int[] {3, small(random), small(random)};
            case 9: return new int[] {4, random.nextInt(3) == 0 ? any(random) : 1 + random.nextInt(4), 0};
            case 10: return new int[] {5, 0, 0};
            case 11: return new int[] {6, p, random.nextInt(6) - 1};
            case 12: return new int[] {7, random.nextInt(64) - 2, 0};
            case 13: return new int[] {8, "abcdefghxyizAF1`w".charAt(random.nextInt(17)), 0};
            case 14: case 15: case 16: case 17: return new int[] {9, "ABCDEFG@".charAt(random.nextInt(8)), random.nextInt(7) - 1};
            case 18: return new int[] {10, p, 0};
            case 19: case 20: return new int[] {13, 0, 0};
            case 21: return new int[] {11, 0, 0};
            case 22: return new int[] {12, random.nextInt(5) - 1, 0};
            case 23: case 24: return new int[] {14, random.nextInt(5) - 1, 0};
            case 25: return new int[] {15, p, 0};
            case 26: case 27: return new int[] {16, random.nextInt(4) - 1, 0};
            case 28: return new int[] {17, random.nextInt(4) - 1, 0};
            case 29: return new int[] {18, small(random), observed(random, m)};
            case 30: return new int[] {19, 0, 0};
            case 31: case 32: return new int[] {20, 0, 0};
            case 33: return new int[] {21, random.nextInt(4) - 1, 0};
            case 34: return new int[] {22, random.nextInt(4) - 1, 0};
            case 35: case 36: return new int[] {23, random.nextInt(8) - 1, 0};
            case 37: return new int[] {24, random.nextInt(4) - 1, 0};
            case 38: return new int[] {0, any(random) & 511, 0};
            default: return new int[] {25, 0, 0};
        }
    }

    private static int observed(Random random, Model m) {
        Run r = new Run(m.program, random.nextInt(10), small(random));
        return r.isLong || random.nextInt(3) == 0 ? small(random) : r.value;
    }

    private static int small(Random random) {
        return random.nextInt(12) == 0 ? any(random) : random.nextInt(12) - 2;
    }

    private static int any(Random random) {
        int[] extremes = {Integer.MIN_VALUE, Integer.MAX_VALUE, -1, 60, 61, 100, 0};
        return random.nextBoolean() ? random.nextInt() : extremes[random.nextInt(extremes.length)];
    }

    private static int onProgram(OneReturns o, int[] c) {
        switch (c[0]) {
            case 0: return o.type(c[1]);
            case 1: return o.clear();
            case 2: return o.reads();
            case 3: return o.inputs(c[1], c[2]);
            case 4: return o.shrinks(c[1]);
            case 5: return o.undo();
            case 6: return o.part(c[1], c[2]);
            case 7: return o.told(c[1]);
            case 8: return o.uses(c[1]);
            case 9: return o.function(c[1], c[2]);
            case 10: return o.last(c[1]);
            case 11: return o.status();
            case 12: return o.cost(c[1]);
            case 13: return o.run();
            case 14: return o.frames(c[1]);
            case 15: return o.often(c[1]);
            case 16: return o.next(c[1]);
            case 17: return o.shortest(c[1]);
            case 18: return o.comes(c[1], c[2]);
            case 19: return o.forget();
            case 20: return o.fits();
            case 21: return o.keep(c[1]);
            case 22: return o.back(c[1]);
            case 23: return o.count(c[1]);
            case 24: return o.input(c[1]);
            default: return o.told(-1);
        }
    }

    /** Makes texts: mostly programs, some of them spoilt. */
    private static final class Maker {
        private final Random random;
        private final StringBuilder values = new StringBuilder();
        private final StringBuilder functions = new StringBuilder();
        private final Set<Character> used = new HashSet<>();

        Maker(Random random) {
            this.random = random;
        }

        String text() {
            String s = expression(2 + random.nextInt(random.nextInt(3) == 0 ? 6 : 20));
            StringBuilder b = new StringBuilder(s);
            if (random.nextInt(6) == 0) {
                String signs = "0123abcdefghxy+-*?:@!ABCDEFG iz~";
                int at = random.nextInt(b.length());
                char c = random.nextInt(9) == 0 ? (char) random.nextInt(256) : signs.charAt(random.nextInt(signs.length()));
                switch (random.nextInt(3)) {
                    case 0: b.setCharAt(at, c); break;
                    case 1: b.insert(at, c); break;
                    default: b.deleteCharAt(at); break;
                }
            }
            for (int k = random.nextInt(3) == 0 ? random.nextInt(5) : 0; k > 0; k--) {
                b.insert(random.nextInt(b.length() + 1), ' ');
            }
            return b.toString();
        }

        private String free(String letters) {
            List<Character> left = new ArrayList<>();
            for (char c : letters.toCharArray()) {
                if (!used.contains(c)) {
                    left.add(c);
                }
            }
            if (left.isEmpty()) {
                return null;
            }
            char c = left.get(random.nextInt(left.size()));
            used.add(c);
            return "" + c;
        }

        private String simple() {
            int kind = random.nextInt(5);
            if (kind < 2 && values.length() > 0) {
                return "" + values.charAt(random.nextInt(values.length()));
            }
            return kind == 2 ? "x" : kind == 3 && random.nextBoolean() ? "y" : "" + random.nextInt(random.nextBoolean() ? 3 : 10);
        }

        private String expression(int budget) {
            if (budget < 2) {
                return simple();
            }
            int kind = random.nextInt(14);
            if (kind < 4) {
                return "+-*".charAt(random.nextInt(3)) + expression(budget / 2) + expression(budget / 2);
            }
            if (kind < 6) {
                return "?" + expression(budget / 4) + expression(budget / 2) + expression(budget / 2);
            }
            if (kind < 9) {
                return binding(budget);
            }
            if (kind < 12 || functions.length() == 0) {
                return definition(budget);
            }
            return "!" + functions.charAt(random.nextInt(functions.length())) + expression(budget / 3);
        }

        private String binding(int budget) {
            String v = free("abcdefgh");
            if (v == null) {
                return simple();
            }
            String first = expression(random.nextInt(3) == 0 ? budget / 2 : budget / 6);
            values.append(v);
            String second = expression(budget * 2 / 3);
            values.setLength(values.length() - 1);
            return ":" + v + first + second;
        }

        private String definition(int budget) {
            String f = free("ABCDEF");
            String v = f == null ? null : free("abcdefgh");
            if (v == null) {
                return simple();
            }
            functions.append(f);
            values.append(v);
            String body;
            switch (random.nextInt(4)) {
                case 0: body = "?" + v + expression(budget / 3) + "!" + f + "-" + v + "1"; break;
                case 1: body = "?" + v + simple() + "+" + v + "!" + f + "-" + v + "1"; break;
                default: body = expression(budget / 2); break;
            }
            values.setLength(values.length() - 1);
            String second = random.nextInt(4) == 0 ? "!" + f + expression(budget / 4) : expression(budget * 2 / 3);
            functions.setLength(functions.length() - 1);
            return "@" + f + v + body + second;
        }
    }

    /** An expression of the model; it is never changed. */
    private static final class Node {
        final char letter;
        final char name;
        final char parameter;
        final Node[] kids;

        Node(char letter, char name, char parameter, Node... kids) {
            this.letter = letter;
            this.name = name;
            this.parameter = parameter;
            this.kids = kids;
        }

        String text() {
            StringBuilder s = new StringBuilder().append(letter);
            if (name != 0) {
                s.append(name);
            }
            if (parameter != 0) {
                s.append(parameter);
            }
            for (Node kid : kids) {
                s.append(kid.text());
            }
            return s.toString();
        }

        List<Node> all() {
            List<Node> found = new ArrayList<>();
            collect(found);
            return found;
        }

        private void collect(List<Node> found) {
            found.add(this);
            for (Node kid : kids) {
                kid.collect(found);
            }
        }

        int uses(char c) {
            int n = 0;
            for (Node e : all()) {
                n += e.letter == c ? 1 : 0;
            }
            return n;
        }

        int calls(char f) {
            int n = 0;
            for (Node e : all()) {
                n += e.letter == '!' && e.name == f ? 1 : 0;
            }
            return n;
        }

        boolean isDigit() {
            return letter >= '0' && letter <= '9';
        }
    }

    private static final class Fault extends Exception {
        private static final long serialVersionUID = 1;
        final int position;

        Fault(int position) {
            this.position = position;
        }
    }

    /** Reads a text by recursive descent. */
    private static final class Parser {
        private final String text;
        private int at = 0;
        private final Set<Character> introduced = new HashSet<>();

        Parser(String text) {
            this.text = text;
        }

        Node program() throws Fault {
            Node e = expression(Set.of());
            blanks();
            if (at < text.length()) {
                throw new Fault(at);
            }
            return e;
        }

        private void blanks() {
            while (at < text.length() && text.charAt(at) == ' ') {
                at++;
            }
        }

        private char one(String allowed) throws Fault {
            blanks();
            if (at == text.length() || allowed.indexOf(text.charAt(at)) < 0) {
                throw new Fault(at);
            }
            return text.charAt(at++);
        }

        private char introduce(String sort) throws Fault {
            StringBuilder left = new StringBuilder();
            for (char c : sort.toCharArray()) {
                if (!introduced.contains(c)) {
                    left.append(c);
                }
            }
            char c = one(left.toString());
            introduced.add(c);
            return c;
        }

        private static Set<Character> with(Set<Character> known, char... more) {
            Set<Character> s = new HashSet<>(known);
            for (char c : more) {
                s.add(c);
            }
            return s;
        }

        private static String sort(Set<Character> known, boolean isFunction) {
            StringBuilder s = new StringBuilder();
            for (char c : known) {
                if ((c < 'a') == isFunction) {
                    s.append(c);
                }
            }
            return s.toString();
        }

        private Node expression(Set<Character> known) throws Fault {
            char c = one("0123456789xy+-*?:@!" + sort(known, false));
            char none = 0;
            switch (c) {
                case '+': case '-': case '*':
                    return new Node(c, none, none, expression(known), expression(known));
                case '?':
                    return new Node(c, none, none, expression(known), expression(known), expression(known));
                case ':': {
                    char v = introduce("abcdefgh");
                    return new Node(c, v, none, expression(known), expression(with(known, v)));
                }
                case '@': {
                    char f = introduce("ABCDEF");
                    char v = introduce("abcdefgh");
                    return new Node(c, f, v, expression(with(known, f, v)), expression(with(known, f)));
                }
                case '!': {
                    char f = one(sort(known, true));
                    return new Node(c, f, none, expression(known));
                }
                default:
                    return new Node(c, none, none);
            }
        }
    }

    /** Tail calls and returns, found from the outside to the inside. */
    private static final class Points {
        final Map<Node, Boolean> tails = new HashMap<>();
        final Map<Node, Character> bodies = new HashMap<>();
        final Map<Character, Integer> returns = new HashMap<>();
        final Map<Character, Integer> definitions = new HashMap<>();
        final List<Node> all;

        Points(Node program) {
            all = program.all();
            walk(program, true, '-');
            for (char f = 'A'; f <= 'F'; f++) {
                returns.put(f, OneReturns.NOWHERE);
            }
            for (int i = 0; i < all.size(); i++) {
                if (all.get(i).letter == '@') {
                    definitions.put(all.get(i).name, i);
                }
            }
            Map<Character, Integer> before;
            do {
                before = new HashMap<>(returns);
                round();
            } while (!before.equals(returns));
        }

        private void walk(Node e, boolean tail, char body) {
            if (e.letter == '!') {
                tails.put(e, tail);
                bodies.put(e, body);
            }
            switch (e.letter) {
                case '?':
                    walk(e.kids[0], false, body);
                    walk(e.kids[1], tail, body);
                    walk(e.kids[2], tail, body);
                    break;
                case ':':
                    walk(e.kids[0], false, body);
                    walk(e.kids[1], tail, body);
                    break;
                case '@':
                    walk(e.kids[0], true, e.name);
                    walk(e.kids[1], tail, body);
                    break;
                default:
                    for (Node kid : e.kids) {
                        walk(kid, false, body);
                    }
            }
        }

        private void round() {
            for (int i = 0; i < all.size(); i++) {
                Node e = all.get(i);
                if (e.letter != '!') {
                    continue;
                }
                int gives = !tails.get(e) ? i : bodies.get(e) == '-' ? OneReturns.END : returns.get(bodies.get(e));
                int present = returns.get(e.name);
                if (gives != OneReturns.NOWHERE && gives != present) {
                    returns.put(e.name, present == OneReturns.NOWHERE ? gives : OneReturns.MANY);
                }
            }
        }

        boolean jump(char f) {
            return returns.get(f) >= 0 || returns.get(f) == OneReturns.END;
        }
    }

    private static final class TooLong extends RuntimeException {
        private static final long serialVersionUID = 1;
    }

    private static final class Closure {
        final Node definition;
        final Map<Character, Object> names;

        Closure(Node definition, Map<Character, Object> names) {
            this.definition = definition;
            this.names = names;
        }
    }

    /** One run of the model, with closures in maps of names. */
    private static final class Run {
        int value = 0;
        int steps = 0;
        int calls = 0;
        int open = 0;
        boolean isLong = false;
        final int[] present = new int[3];
        final int[] most = new int[3];
        final Map<Node, Integer> often = new HashMap<>();
        private final Points points;
        private final int x;
        private final int y;

        Run(Node program, int x, int y) {
            this.x = x;
            this.y = y;
            points = new Points(program);
            try {
                value = evaluate(program, new HashMap<>());
            } catch (TooLong t) {
                isLong = true;
            }
        }

        private int evaluate(Node e, Map<Character, Object> names) {
            if (steps == 300 || open == 100) {
                throw new TooLong();
            }
            steps++;
            open++;
            often.merge(e, 1, Integer::sum);
            int v = inside(e, names);
            open--;
            return v;
        }

        private int inside(Node e, Map<Character, Object> names) {
            switch (e.letter) {
                case '+': return evaluate(e.kids[0], names) + evaluate(e.kids[1], names);
                case '-': return evaluate(e.kids[0], names) - evaluate(e.kids[1], names);
                case '*': return evaluate(e.kids[0], names) * evaluate(e.kids[1], names);
                case '?': return evaluate(e.kids[evaluate(e.kids[0], names) == 0 ? 1 : 2], names);
                case ':': {
                    Map<Character, Object> more = new HashMap<>(names);
                    more.put(e.name, evaluate(e.kids[0], names));
                    return evaluate(e.kids[1], more);
                }
                case '@': {
                    Map<Character, Object> more = new HashMap<>(names);
                    more.put(e.name, new Closure(e, more));
                    return evaluate(e.kids[1], more);
                }
                case '!': return call(e, names);
                case 'x': return x;
                case 'y': return y;
                default: return e.isDigit() ? e.letter - '0' : (Integer) names.get(e.letter);
            }
        }

        private int call(Node e, Map<Character, Object> names) {
            int argument = evaluate(e.kids[0], names);
            Closure c = (Closure) names.get(e.name);
            calls++;
            boolean[] has = {true, !points.tails.get(e), !points.tails.get(e) && !points.jump(e.name)};
            for (int w = 0; w < 3; w++) {
                present[w] += has[w] ? 1 : 0;
                most[w] = Math.max(most[w], present[w]);
            }
            Map<Character, Object> inner = new HashMap<>(c.names);
            inner.put(c.definition.parameter, argument);
            int v = evaluate(c.definition.kids[0], inner);
            for (int w = 0; w < 3; w++) {
                present[w] -= has[w] ? 1 : 0;
            }
            return v;
        }
    }

    /** Simplification of trees. */
    private static final class Simpler {
        static int rule(Node e) {
            Node a = e.kids.length > 0 ? e.kids[0] : null;
            Node b = e.kids.length > 1 ? e.kids[1] : null;
            switch (e.letter) {
                case '+': case '-': case '*':
                    return a.isDigit() && b.isDigit() && result(e) >= 0 && result(e) <= 9 ? 1 : 0;
                case '?':
                    return a.isDigit() ? 2 : 0;
                case ':':
                    if (b.uses(e.name) == 0 && a.uses('!') == 0) {
                        return 3;
                    }
                    if (a.kids.length == 0) {
                        return 4;
                    }
                    return b.uses(e.name) == 1 && a.uses('!') == 0 ? 5 : 0;
                case '@':
                    if (b.calls(e.name) == 0) {
                        return 6;
                    }
                    return b.calls(e.name) == 1 && a.calls(e.name) == 0 ? 7 : 0;
                default:
                    return 0;
            }
        }

        private static int result(Node e) {
            int a = e.kids[0].letter - '0';
            int b = e.kids[1].letter - '0';
            return e.letter == '+' ? a + b : e.letter == '-' ? a - b : a * b;
        }

        static int place(Node program) {
            List<Node> all = program.all();
            for (int i = 0; i < all.size(); i++) {
                if (rule(all.get(i)) > 0) {
                    return i;
                }
            }
            return -1;
        }

        /** The program after one simplification; null if there is none. */
        static Node once(Node program) {
            int place = place(program);
            if (place < 0) {
                return null;
            }
            Node e = program.all().get(place);
            return swap(program, e, simplified(e));
        }

        private static Node simplified(Node e) {
            switch (rule(e)) {
                case 1: return new Node((char) ('0' + result(e)), (char) 0, (char) 0);
                case 2: return e.kids[e.kids[0].letter == '0' ? 1 : 2];
                case 4: case 5: return replace(e.kids[1], e.name, e.kids[0]);
                case 7: return inline(e.kids[1], e);
                default: return e.kids[1];
            }
        }

        private static Node rebuilt(Node e, Node[] kids) {
            return new Node(e.letter, e.name, e.parameter, kids);
        }

        private static Node swap(Node e, Node old, Node by) {
            if (e == old) {
                return by;
            }
            Node[] kids = new Node[e.kids.length];
            for (int i = 0; i < kids.length; i++) {
                kids[i] = swap(e.kids[i], old, by);
            }
            return rebuilt(e, kids);
        }

        private static Node replace(Node e, char name, Node by) {
            if (e.letter == name) {
                return swap(by, null, null);
            }
            Node[] kids = new Node[e.kids.length];
            for (int i = 0; i < kids.length; i++) {
                kids[i] = replace(e.kids[i], name, by);
            }
            return rebuilt(e, kids);
        }

        private static Node inline(Node e, Node definition) {
            if (e.letter == '!' && e.name == definition.name) {
                return new Node(':', definition.parameter, (char) 0, e.kids[0], definition.kids[0]);
            }
            Node[] kids = new Node[e.kids.length];
            for (int i = 0; i < kids.length; i++) {
                kids[i] = inline(e.kids[i], definition);
            }
            return rebuilt(e, kids);
        }
    }

    /** The whole object, in the words of the document. */
    private static final class Model {
        Node program = new Node('0', (char) 0, (char) 0);
        int x = 0;
        int y = 0;
        int latest = 0;
        String text = "";
        final List<Object[]> record = new ArrayList<>();
        final List<int[]> observations = new ArrayList<>();
        final Object[][] images = new Object[2][];

        int answer(int[] c) {
            int a = c[1];
            int b = c[2];
            switch (c[0]) {
                case 0:
                    if (a < 0 || a > 255) {
                        return -1;
                    }
                    if (text.length() == 60) {
                        return -3;
                    }
                    text += (char) a;
                    return text.length();
                case 1: {
                    int n = text.length();
                    text = "";
                    return n;
                }
                case 2: return read();
                case 3:
                    if (a == x && b == y) {
                        return -2;
                    }
                    act();
                    x = a;
                    y = b;
                    return 1;
                case 4: return shrink(a);
                case 5:
                    if (record.isEmpty()) {
                        return -2;
                    }
                    restore(record.remove(record.size() - 1));
                    return record.size();
                case 6: return property(a, b);
                case 7: return a < -1 ? -1 : a == -1 ? program.text().length() : a < program.text().length() ? program.text().charAt(a) : -9;
                case 8: return a < 0 || a > 255 || "abcdefghxy".indexOf(a) < 0 ? -1 : program.uses((char) a);
                case 9: return function(a, b);
                default: return otherAnswer(c);
            }
        }

        private int otherAnswer(int[] c) {
            int a = c[1];
            int b = c[2];
            int size = program.all().size();
            Run r;
            switch (c[0]) {
                case 10:
                    if (a < 0 || a >= size) {
                        return -1;
                    }
                    return program.all().get(a).letter != '!' ? -9 : new Points(program).tails.get(program.all().get(a)) ? 1 : 0;
                case 11: return latest;
                case 12:
                    if (a < 0 || a > 2) {
                        return -1;
                    }
                    r = new Run(program, x, y);
                    return r.isLong ? -9 : a == 0 ? r.steps : a == 1 ? r.calls : r.most[0];
                case 13:
                    r = new Run(program, x, y);
                    latest = r.isLong ? 1 : 0;
                    return r.isLong ? 0 : r.value;
                case 14:
                    if (a < 0 || a > 2) {
                        return -1;
                    }
                    r = new Run(program, x, y);
                    return r.isLong ? -9 : r.most[a];
                case 15:
                    if (a < 0 || a >= size) {
                        return -1;
                    }
                    r = new Run(program, x, y);
                    return r.isLong ? -9 : r.often.getOrDefault(program.all().get(a), 0);
                case 16: {
                    int place = Simpler.place(program);
                    return a < 0 || a > 1 ? -1 : place < 0 ? -9 : a == 0 ? place : Simpler.rule(program.all().get(place));
                }
                case 17: {
                    if (a < 0 || a > 1) {
                        return -1;
                    }
                    Node e = program;
                    int times = 0;
                    for (Node f = Simpler.once(e); f != null; f = Simpler.once(e)) {
                        e = f;
                        times++;
                    }
                    return a == 0 ? times : e.all().size();
                }
                case 18:
                    if (observations.size() == 3) {
                        return -3;
                    }
                    observations.add(new int[] {a, b});
                    return observations.size();
                case 19: {
                    int n = observations.size();
                    observations.clear();
                    return n;
                }
                case 20: return fitting();
                case 21:
                    if (a < 0 || a > 1) {
                        return -1;
                    }
                    images[a] = new Object[] {program, x, y};
                    return size;
                case 22:
                    if (a < 0 || a > 1) {
                        return -1;
                    }
                    if (images[a] == null) {
                        return -2;
                    }
                    restore(images[a]);
                    record.clear();
                    return program.all().size();
                case 23: return total(a);
                case 24: return a == 0 ? x : a == 1 ? y : 0;
                default: return program.text().length();
            }
        }

        private void act() {
            record.add(new Object[] {program, x, y});
            if (record.size() > 8) {
                record.remove(0);
            }
        }

        private void restore(Object[] moment) {
            program = (Node) moment[0];
            x = (Integer) moment[1];
            y = (Integer) moment[2];
        }

        private int read() {
            try {
                Node read = new Parser(text).program();
                act();
                program = read;
                text = "";
                return program.all().size();
            } catch (Fault f) {
                return -10 - f.position;
            }
        }

        private int shrink(int n) {
            if (n < 1 || n > 60) {
                return -1;
            }
            Node e = program;
            int times = 0;
            for (Node f = Simpler.once(e); f != null && times < n; f = Simpler.once(e)) {
                e = f;
                times++;
            }
            if (times == 0) {
                return -2;
            }
            act();
            program = e;
            return times;
        }

        private int property(int p, int what) {
            List<Node> all = program.all();
            if (p < 0 || p >= all.size() || what < 0 || what > 3) {
                return -1;
            }
            Node e = all.get(p);
            if (what < 2) {
                return what == 0 ? e.letter : e.all().size();
            }
            int around = -9;
            int depth = 0;
            for (int q = 0; q < p; q++) {
                if (q + all.get(q).all().size() > p) {
                    around = q;
                    depth++;
                }
            }
            return what == 2 ? around : depth;
        }

        private int function(int letter, int what) {
            if (letter < 'A' || letter > 'F' || what < 0 || what > 4) {
                return -1;
            }
            char f = (char) letter;
            Points points = new Points(program);
            if (!points.definitions.containsKey(f)) {
                return -9;
            }
            int tails = 0;
            for (Map.Entry<Node, Boolean> t : points.tails.entrySet()) {
                tails += t.getKey().name == f && t.getValue() ? 1 : 0;
            }
            int[] answers = {points.definitions.get(f), program.calls(f), tails, points.returns.get(f), points.jump(f) ? 1 : 0};
            return answers[what];
        }

        private int fitting() {
            int set = 0;
            for (int guess = 0; guess < 10; guess++) {
                boolean fits = true;
                for (int[] o : observations) {
                    Run r = new Run(program, guess, o[0]);
                    fits &= !r.isLong && r.value == o[1];
                }
                set |= fits ? 1 << guess : 0;
            }
            return set;
        }

        private int total(int what) {
            Points points = new Points(program);
            int jumps = 0;
            for (char f : points.definitions.keySet()) {
                jumps += points.jump(f) ? 1 : 0;
            }
            int[] totals = {points.all.size(), points.definitions.size(), jumps, observations.size(), text.length(), record.size()};
            return what < 0 || what > 5 ? -1 : totals[what];
        }
    }
}

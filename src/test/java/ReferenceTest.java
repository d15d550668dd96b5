import java.util.ArrayList;
import java.util.Arrays;
import java.util.List;

/**
 * Long runs of calls on ForthCompiler and on a second implementation that shares no idea with it: words are trees
 * there, and a run walks them by recursion. It has no level, so a level that showed in an answer would be found.
 * The calls come from a fixed row of numbers, and are the same each time.
 */
public final class ReferenceTest {
    private static final int NUMBER = 0, DUP = 1, DROP = 2, OVER = 4, ROT = 5, DIVIDE = 9, REST = 10, FETCH = 19;
    private static final int STORE = 20, PRINT = 21, CALL = 22;
    private static final int IF = 23, ELSE = 24, THEN = 25, BEGIN = 26, UNTIL = 27, WHILE = 28, REPEAT = 29;
    private static final int DO = 30, LOOP = 31, I = 32, EXIT = 33;
    private static final String TAKEN = "0112232222222122211121" + "0100011020" + "00";
    private static final int OBJECTS = 6000;
    private static final int CALLS = 512;

    private static final class Node {
        int op;
        int n;
        List<Node> first;
        List<Node> second;
    }

    private static final class End extends RuntimeException {
        private static final long serialVersionUID = 1L;
        final int code;

        End(int code) {
            super(null, null, false, false);
            this.code = code;
        }
    }

    private static final End EXITED = new End(-1);

    private static final class Reference {
        final List<int[]> hand = new ArrayList<>();
        final List<List<Node>> words = new ArrayList<>();
        final List<Integer> stack = new ArrayList<>();
        final int[] cells = new int[16];
        String text = "";
        int steps;
        int calls;
        int loops;
        int at;

        static boolean isNumber(int x) {
            return x == (short) x;
        }

        int token(int op, int n) {
            if (hand.size() == 24) {
                return ForthCompiler.FULL;
            }
            if (op < 0 || op > 33 || op == NUMBER && !isNumber(n) || op == CALL && (n < 0 || n > 9)) {
                return ForthCompiler.BAD;
            }
            hand.add(new int[] {op, n});
            return hand.size();
        }

        int define() {
            if (words.size() == 10) {
                return ForthCompiler.FULL;
            }
            at = 0;
            List<Node> word = parse(false);
            if (word == null || at < hand.size()) {
                return ForthCompiler.BAD;
            }
            words.add(word);
            hand.clear();
            return words.size() - 1;
        }

        /** The tokens up to one that ends a part, or all; null if what is among them does not fit. */
        List<Node> parse(boolean inLoop) {
            List<Node> list = new ArrayList<>();
            while (at < hand.size()) {
                Node node = new Node();
                node.op = hand.get(at)[0];
                node.n = hand.get(at)[1];
                boolean ends = node.op == ELSE || node.op == THEN || node.op >= UNTIL && node.op <= REPEAT
                        || node.op == LOOP;
                if (ends) {
                    return list;
                }
                at++;
                boolean fits = true;
                if (node.op == IF) {
                    node.first = parse(inLoop);
                    if (node.first != null && comes(ELSE)) {
                        node.second = parse(inLoop);
                        fits = node.second != null;
                    }
                    fits = fits && node.first != null && comes(THEN);
                } else if (node.op == BEGIN) {
                    node.first = parse(inLoop);
                    fits = node.first != null;
                    if (fits && comes(WHILE)) {
                        node.second = parse(inLoop);
                        fits = node.second != null && comes(REPEAT);
                    } else {
                        fits = fits && comes(UNTIL);
                    }
                } else if (node.op == DO) {
                    node.first = parse(true);
                    fits = node.first != null && comes(LOOP);
                } else if (node.op == I) {
                    fits = inLoop;
                } else if (node.op == CALL) {
                    fits = node.n <= words.size();
                }
                if (!fits) {
                    return null;
                }
                list.add(node);
            }
            return list;
        }

        boolean comes(int op) {
            if (at < hand.size() && hand.get(at)[0] == op) {
                at++;
                return true;
            }
            return false;
        }

        int run(int w) {
            if (w < 0 || w >= words.size()) {
                return ForthCompiler.BAD;
            }
            text = "";
            steps = 0;
            calls = 0;
            loops = 0;
            try {
                call(w);
                return ForthCompiler.ENDED;
            } catch (End end) {
                stack.clear();
                return end.code;
            }
        }

        void call(int w) {
            int loopsBefore = loops;
            calls++;
            try {
                walk(words.get(w), 0);
            } catch (End end) {
                if (end != EXITED) {
                    throw end;
                }
            }
            calls--;
            loops = loopsBefore;
        }

        void step(int op) {
            int taken = TAKEN.charAt(op) - '0';
            if (steps == 300) {
                throw new End(ForthCompiler.TIRED);
            }
            if (stack.size() < taken) {
                throw new End(ForthCompiler.UNDER);
            }
            if ((op == DIVIDE || op == REST) && stack.get(stack.size() - 1) == 0) {
                throw new End(ForthCompiler.ZERO);
            }
            if ((op == NUMBER || op == DUP || op == OVER || op == I) && stack.size() == 12) {
                throw new End(ForthCompiler.OVER);
            }
            if (op == CALL && calls == 8 || op == DO && loops == 6) {
                throw new End(ForthCompiler.DEEP);
            }
            steps++;
        }

        int pop() {
            return stack.remove(stack.size() - 1);
        }

        void put(long x) {
            long low = Math.floorMod(x, 65536L);
            stack.add((int) (low < 32768 ? low : low - 65536));
        }

        void walk(List<Node> list, int count) {
            for (Node node : list) {
                if (node.op == BEGIN) {
                    walkBegin(node, count);
                    continue;
                }
                step(node.op);
                if (node.op == CALL) {
                    call(node.n);
                } else if (node.op == EXIT) {
                    throw EXITED;
                } else if (node.op == I) {
                    put(count);
                } else if (node.op == DO) {
                    walkDo(node);
                } else if (node.op != IF) {
                    simple(node);
                } else if (pop() != 0) {
                    walk(node.first, count);
                    if (node.second != null) {
                        step(ELSE);
                    }
                } else if (node.second != null) {
                    walk(node.second, count);
                }
            }
        }

        void walkBegin(Node node, int count) {
            while (true) {
                walk(node.first, count);
                step(node.second == null ? UNTIL : WHILE);
                boolean truth = pop() != 0;
                if (truth == (node.second == null)) {
                    return;
                }
                if (node.second != null) {
                    walk(node.second, count);
                    step(REPEAT);
                }
            }
        }

        void walkDo(Node node) {
            int count = pop();
            int limit = pop();
            loops++;
            do {
                walk(node.first, count);
                step(LOOP);
                count = count == 32767 ? -32768 : count + 1;
            } while (count != limit);
            loops--;
        }

        void simple(Node node) {
            int taken = TAKEN.charAt(node.op) - '0';
            int c = taken == 3 ? pop() : 0;
            int b = taken >= 2 ? pop() : 0;
            int a = taken >= 1 ? pop() : 0;
            switch (node.op) {
                case NUMBER -> put(node.n);
                case DUP -> { put(a); put(a); }
                case DROP -> { }
                case 3 -> { put(b); put(a); }
                case OVER -> { put(a); put(b); put(a); }
                case ROT -> { put(b); put(c); put(a); }
                case 6 -> put((long) a + b);
                case 7 -> put((long) a - b);
                case 8 -> put((long) a * b);
                case DIVIDE -> put((long) a / b);
                case REST -> put(a - b * ((long) a / b));
                case 11 -> put(a < b ? -1 : 0);
                case 12 -> put(a == b ? -1 : 0);
                case 13 -> put(a == 0 ? -1 : 0);
                case 14 -> put(a & b);
                case 15 -> put(a | b);
                case 16 -> put(a ^ b);
                case 17 -> put(-1 - a);
                case 18 -> put(-a);
                case FETCH -> put(cells[Math.floorMod(a, 16)]);
                case STORE -> cells[Math.floorMod(b, 16)] = a;
                case PRINT -> text += a + " ";
                default -> throw new IllegalStateException("op " + node.op);
            }
        }
    }

    private static long seed = 1;
    private static int object;
    private static final StringBuilder story = new StringBuilder();
    private static final int[] ends = new int[6];
    private static int longRuns;

    /** The next of a fixed row of numbers, from 0 to below. */
    private static int next(int below) {
        seed = seed * 6364136223846793005L + 1442695040888963407L;
        return (int) ((seed >>> 33) % below);
    }

    private static int someNumber() {
        int[] edges = {-32768, 32767, -32769, 32768, Integer.MIN_VALUE, Integer.MAX_VALUE, 65536, -65535};
        int kind = next(16);
        if (kind == 0) {
            return edges[next(edges.length)];
        }
        return kind < 12 ? next(8) - 2 : next(65536) - 32768;
    }

    private static int someIndex() {
        int[] wild = {-1, 16, 59, 60, Integer.MIN_VALUE, Integer.MAX_VALUE};
        return next(8) == 0 ? wild[next(wild.length)] : next(20);
    }

    /** Tokens of a word whose parts fit, now and then with one too many or one changed. */
    private static List<int[]> someTokens(int words) {
        List<int[]> list = new ArrayList<>();
        do {
            list.clear();
            somePart(list, words, 3, false);
        } while (list.size() > 24);
        if (next(16) == 0) {
            for (int i = 0; i < 24; i++) {
                add(list, NUMBER, i);
            }
        }
        if (next(12) == 0 && !list.isEmpty()) {
            list.set(next(list.size()), new int[] {next(36) - 1, next(11)});
        }
        return list;
    }

    private static void add(List<int[]> list, int op, int n) {
        list.add(new int[] {op, n});
    }

    private static void somePart(List<int[]> list, int words, int room, boolean inLoop) {
        int count = 1 + next(room + 3);
        for (int i = 0; i < count; i++) {
            int kind = next(room > 0 ? 22 : 12);
            if (kind < 2) {
                add(list, NUMBER, someNumber());
            } else if (kind < 4) {
                someNeutral(list, inLoop);
            } else if (kind < 10) {
                add(list, 1 + next(21), someNumber());
            } else if (kind == 10) {
                add(list, inLoop ? I : DUP, 0);
            } else if (kind == 11) {
                int op = next(3) == 0 ? EXIT : CALL;
                add(list, op, next(words + 1));
            } else if (kind < 15) {
                if (next(2) == 0) {
                    add(list, DUP, 0);
                }
                add(list, IF, 0);
                somePart(list, words, room - 1, inLoop);
                if (next(2) == 0) {
                    add(list, ELSE, 0);
                    somePart(list, words, room - 1, inLoop);
                }
                add(list, THEN, 0);
            } else if (kind < 17) {
                someBegin(list, words, room, inLoop);
            } else {
                if (next(5) > 0) {
                    add(list, NUMBER, next(3) == 0 ? next(400) : next(6));
                    add(list, NUMBER, next(4));
                }
                add(list, DO, 0);
                somePart(list, words, room - 1, true);
                add(list, LOOP, 0);
            }
        }
    }

    /** Tokens that leave the stack as high as it was, so that some loops go on for long and end well. */
    private static void someNeutral(List<int[]> list, boolean inLoop) {
        add(list, inLoop ? I : NUMBER, next(20));
        int kind = next(3);
        if (kind == 0) {
            add(list, PRINT, 0);
        } else if (kind == 1) {
            add(list, NUMBER, next(20));
            add(list, STORE, 0);
        } else {
            add(list, FETCH, 0);
            add(list, DROP, 0);
        }
    }

    private static void someBegin(List<int[]> list, int words, int room, boolean inLoop) {
        add(list, BEGIN, 0);
        somePart(list, words, room - 1, inLoop);
        if (next(2) == 0) {
            add(list, UNTIL, 0);
        } else {
            add(list, WHILE, 0);
            somePart(list, words, room - 1, inLoop);
            add(list, REPEAT, 0);
        }
    }

    private static int bit(boolean truth) {
        return truth ? 1 : 0;
    }

    private static void same(String call, int got, int want) {
        story.append(call).append(" = ").append(got).append('\n');
        if (got != want) {
            System.out.println("object " + object + ":\n" + story + "due is " + want);
            System.exit(1);
        }
    }

    private static boolean refPush(Reference r, int n) {
        boolean good = Reference.isNumber(n) && r.stack.size() < 12;
        if (good) {
            r.stack.add(n);
        }
        return good;
    }

    private static boolean refSetCell(Reference r, int i, int n) {
        boolean good = i >= 0 && i < 16 && Reference.isNumber(n);
        if (good) {
            r.cells[i] = n;
        }
        return good;
    }

    private static void sameState(ForthCompiler x, Reference r) {
        same("steps()", x.steps(), r.steps);
        same("depth()", x.depth(), r.stack.size());
        same("printed()", x.printed(), r.text.length());
        int k = next(4) == 0 ? someIndex() : next(12);
        boolean there = k >= 0 && k < r.stack.size();
        same("pick(" + k + ")", x.pick(k), there ? r.stack.get(r.stack.size() - 1 - k) : 0);
        k = next(4) == 0 ? someIndex() : next(64);
        there = k >= 0 && k < r.text.length() && k < 60;
        same("text(" + k + ")", x.text(k), there ? r.text.charAt(k) : 0);
        k = next(4) == 0 ? someIndex() : next(16);
        same("cell(" + k + ")", x.cell(k), k >= 0 && k < 16 ? r.cells[k] : 0);
    }

    private static int someCalls(ForthCompiler x, Reference r) {
        int n = someNumber();
        int i = someIndex();
        switch (next(10)) {
            case 0, 1 -> {
                List<int[]> tokens = someTokens(r.words.size());
                for (int[] t : tokens) {
                    same("token(" + t[0] + ", " + t[1] + ")", x.token(t[0], t[1]), r.token(t[0], t[1]));
                }
                same("define()", x.define(), r.define());
                if (next(8) > 0) {
                    same("cancel()", x.cancel(), r.hand.size());
                    r.hand.clear();
                }
                return tokens.size() + 2;
            }
            case 2, 3, 4 -> {
                int w = next(16) == 0 ? someIndex() : next(r.words.size() + 1);
                int end = r.run(w);
                same("run(" + w + ")", x.run(w), end);
                if (end >= 0) {
                    ends[end]++;
                    longRuns += end == ForthCompiler.ENDED && r.steps > 20 ? 1 : 0;
                }
                sameState(x, r);
                return 7;
            }
            case 5, 6, 7 -> same("push(" + n + ")", bit(x.push(n)), bit(refPush(r, n)));
            case 8 -> same("setCell(" + i + ", " + n + ")", bit(x.setCell(i, n)), bit(refSetCell(r, i, n)));
            default -> {
                int k = next(8) == 0 ? someIndex() : next(2);
                same("level(" + k + ")", bit(x.level(k)), bit(k == 0 || k == 1));
                if (next(3) == 0) {
                    same("forget()", x.forget(), r.words.isEmpty() ? ForthCompiler.BAD : r.words.size() - 1);
                    if (!r.words.isEmpty()) {
                        r.words.remove(r.words.size() - 1);
                    }
                }
                return 2;
            }
        }
        return 1;
    }

    /** Whether the parts fit, for every row of up to 5 tokens of those that have to do with parts. */
    private static void everyShortRow() {
        int[] ops = {IF, ELSE, THEN, BEGIN, UNTIL, WHILE, REPEAT, DO, LOOP, I};
        int rows = 1;
        for (int length = 0; length <= 5; length++, rows *= ops.length) {
            for (int row = 0; row < rows; row++) {
                ForthCompiler x = new ForthCompiler();
                Reference r = new Reference();
                story.setLength(0);
                for (int i = 0, rest = row; i < length; i++, rest /= ops.length) {
                    int op = ops[rest % ops.length];
                    same("token(" + op + ", 0)", x.token(op, 0), r.token(op, 0));
                }
                same("define()", x.define(), r.define());
            }
        }
    }

    public static void main(String[] args) {
        everyShortRow();
        for (object = 0; object < OBJECTS; object++) {
            ForthCompiler x = new ForthCompiler();
            Reference r = new Reference();
            story.setLength(0);
            for (int calls = 0; calls < CALLS - 80; ) {
                calls += someCalls(x, r);
            }
        }
        for (int end = 0; end < ends.length; end++) {
            if (ends[end] < 1000) {
                System.out.println("only " + ends[end] + " runs ended with " + end + ": they test too little");
                System.exit(1);
            }
        }
        System.out.println("both implementations answer the same; runs by their end: " + Arrays.toString(ends) + ", and "
                + longRuns + " of the first with more than 20 steps");
    }
}

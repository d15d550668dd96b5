import java.util.Arrays;

/**
 * The document sentence by sentence: each sentence that names a boundary case has a method of its own here, which says
 * the sentence. All of them are gone through three times: at the level of a new object, at level 0 and at level 1.
 */
public final class EdgeTest {
    private static final int NUMBER = 0, DUP = 1, DROP = 2, SWAP = 3, OVER = 4, ROT = 5, ADD = 6, SUBTRACT = 7;
    private static final int MULTIPLY = 8, DIVIDE = 9, REST = 10, LESS = 11, EQUAL = 12, IS_ZERO = 13, AND = 14;
    private static final int OR = 15, XOR = 16, INVERT = 17, NEGATE = 18, FETCH = 19, STORE = 20, PRINT = 21;
    private static final int CALL = 22, IF = 23, ELSE = 24, THEN = 25, BEGIN = 26, UNTIL = 27, WHILE = 28;
    private static final int REPEAT = 29, DO = 30, LOOP = 31, I = 32, EXIT = 33;
    private static final int BAD = -100000, FULL = -100001;
    private static final int ENDED = 0, TIRED = 1, UNDER = 2, ZERO = 3, TOO_MANY = 4, DEEP = 5;
    private static final int MIN = Integer.MIN_VALUE, MAX = Integer.MAX_VALUE;
    private static final int MOST_CALLS = 512;
    private static final int NEW_LEVEL = -1;

    private static final int[] NO_NUMBERS = {-32769, 32768, 65535, 65536, -65535, -65536, 32768 + 65536, MIN, MAX};

    private static int wrong;
    private static int checks;
    private static int roundLevel;
    private static String sentence;

    // ---- helpers ----

    /** An object, and how many calls it has had: behind the 512th nothing is promised, so no test may go there. */
    private static final class Forth {
        private final ForthCompiler forth = new ForthCompiler();
        private int calls;

        private ForthCompiler next() {
            calls++;
            if (calls > MOST_CALLS) {
                throw new IllegalStateException("a test uses more than 512 calls: " + sentence);
            }
            return forth;
        }

        int token(int op, int n) {
            return next().token(op, n);
        }

        int define() {
            return next().define();
        }

        int cancel() {
            return next().cancel();
        }

        int forget() {
            return next().forget();
        }

        boolean push(int x) {
            return next().push(x);
        }

        int run(int w) {
            return next().run(w);
        }

        int steps() {
            return next().steps();
        }

        int depth() {
            return next().depth();
        }

        int pick(int k) {
            return next().pick(k);
        }

        int cell(int i) {
            return next().cell(i);
        }

        boolean setCell(int i, int x) {
            return next().setCell(i, x);
        }

        int printed() {
            return next().printed();
        }

        int text(int k) {
            return next().text(k);
        }

        boolean level(int k) {
            return next().level(k);
        }

        /** All that the answers show without changing anything; it takes 91 calls. */
        String shown() {
            StringBuilder all = new StringBuilder("steps " + steps() + ", stack of " + depth() + ":");
            for (int k = 0; k < 12; k++) {
                all.append(' ').append(pick(k));
            }
            all.append(", cells:");
            for (int i = 0; i < 16; i++) {
                all.append(' ').append(cell(i));
            }
            all.append(", text of ").append(printed()).append(':');
            for (int k = 0; k < 60; k++) {
                all.append(' ').append(text(k));
            }
            return all.toString();
        }
    }

    private static void says(String words) {
        sentence = words;
    }

    private static void due(String what, Object got, Object want) {
        checks++;
        if (!got.equals(want)) {
            wrong++;
            String level = roundLevel == NEW_LEVEL ? "a new object's level" : "level " + roundLevel;
            System.out.println("\"" + sentence + "\" at " + level + ": " + what + " answered " + got + ", due is " + want);
        }
    }

    private static Forth make(int... numbers) {
        Forth f = new Forth();
        if (roundLevel != NEW_LEVEL) {
            f.level(roundLevel);
        }
        for (int number : numbers) {
            f.push(number);
        }
        return f;
    }

    // A token is told as one int: its op, and above it its number.
    private static int number(int n) {
        return NUMBER + (n << 8);
    }

    private static int call(int w) {
        return CALL + (w << 8);
    }

    private static int[] of(int... numbers) {
        return numbers;
    }

    private static int[] join(int[]... rows) {
        int[] all = {};
        for (int[] row : rows) {
            int length = all.length;
            all = Arrays.copyOf(all, length + row.length);
            System.arraycopy(row, 0, all, length, row.length);
        }
        return all;
    }

    private static int[] times(int count, int number) {
        int[] row = new int[count];
        Arrays.fill(row, number);
        return row;
    }

    private static int[] upTo(int last) {
        int[] row = new int[last];
        for (int i = 0; i < last; i++) {
            row[i] = i + 1;
        }
        return row;
    }

    /** Tokens that make so many steps, 4 or more, and leave the stack as it was; they need two free places on it. */
    private static int[] burn(int steps) {
        return of(number(steps - 3), number(0), DO, LOOP);
    }

    private static void give(Forth f, int... tokens) {
        for (int token : tokens) {
            f.token(token & 255, token >> 8);
        }
    }

    private static int word(Forth f, int... tokens) {
        give(f, tokens);
        return f.define();
    }

    private static String named(int... tokens) {
        StringBuilder name = new StringBuilder();
        for (int token : tokens) {
            name.append(name.length() == 0 ? "" : " ").append(token & 255);
            if ((token & 255) == NUMBER || (token & 255) == CALL) {
                name.append('(').append(token >> 8).append(')');
            }
        }
        return name.toString();
    }

    private static void stackIs(String what, Forth f, int... bottomFirst) {
        int[] got = new int[f.depth()];
        for (int k = 0; k < got.length; k++) {
            got[got.length - 1 - k] = f.pick(k);
        }
        due(what + ", the stack", Arrays.toString(got), Arrays.toString(bottomFirst));
    }

    private static void textIs(String what, Forth f, String text) {
        due(what + ", printed()", f.printed(), text.length());
        StringBuilder got = new StringBuilder();
        for (int k = 0; k < 60 && f.text(k) != 0; k++) {
            got.append((char) f.text(k));
        }
        due(what + ", the text", got.toString(), text.length() > 60 ? text.substring(0, 60) : text);
    }

    /** A word, run on a stack: how it ends, its steps, and the stack then. */
    private static void runs(int[] tokens, int[] before, int end, int steps, int... after) {
        Forth f = make(before);
        String what = named(tokens) + " on " + Arrays.toString(before);
        due("define() of " + named(tokens), word(f, tokens), 0);
        due(what + ", run(0)", f.run(0), end);
        due(what + ", steps()", f.steps(), steps);
        stackIs(what, f, after);
    }

    /** One token on a stack, which it changes and ends well. */
    private static void turns(int token, int[] before, int... after) {
        runs(of(token), before, ENDED, 1, after);
    }

    private static void fit(boolean want, int... tokens) {
        Forth f = make();
        for (int i = 0; i < tokens.length; i++) {
            due("token " + i + " of " + named(tokens), f.token(tokens[i] & 255, tokens[i] >> 8), i + 1);
        }
        due("define() of " + named(tokens), f.define(), want ? 0 : BAD);
        due("cancel() behind it", f.cancel(), want ? 0 : tokens.length);
        due("run(0) behind it is BAD", f.run(0) == BAD, !want);
    }

    // ---- Terms: numbers, cells, the stack, words and tokens ----

    private static void numbers() {
        says("NUMBERS are whole numbers from -32768 to 32767");
        for (int n : of(-32768, -32767, -256, -1, 0, 1, 127, 128, 255, 256, 32766, 32767)) {
            Forth f = make();
            due("push(" + n + ")", f.push(n), true);
            due("pick(0)", f.pick(0), n);
            due("setCell(7, " + n + ")", f.setCell(7, n), true);
            due("cell(7)", f.cell(7), n);
            due("token(0, " + n + ")", f.token(NUMBER, n), 1);
            f.define();
            due("run(0)", f.run(0), ENDED);
            stackIs("0(" + n + ")", f, n, n);
        }
        for (int n : NO_NUMBERS) {
            Forth f = make();
            due("push(" + n + ")", f.push(n), false);
            due("setCell(7, " + n + ")", f.setCell(7, n), false);
            due("token(0, " + n + ")", f.token(NUMBER, n), BAD);
        }
    }

    private static void sumsWrap() {
        says("results wrap modulo 65536");
        turns(ADD, of(32766, 1), 32767);
        turns(ADD, of(32767, 1), -32768);
        turns(ADD, of(32767, 32767), -2);
        turns(ADD, of(-32767, -1), -32768);
        turns(ADD, of(-32768, -1), 32767);
        turns(ADD, of(-32768, -32768), 0);
        turns(ADD, of(255, 1), 256);
        turns(ADD, of(-1, 1), 0);
        turns(SUBTRACT, of(-32767, 1), -32768);
        turns(SUBTRACT, of(-32768, 1), 32767);
        turns(SUBTRACT, of(32766, -1), 32767);
        turns(SUBTRACT, of(32767, -1), -32768);
        turns(SUBTRACT, of(0, -32768), -32768);
        turns(SUBTRACT, of(-32768, 32767), 1);
        turns(SUBTRACT, of(32767, -32768), -1);
        turns(SUBTRACT, of(256, 1), 255);
    }

    private static void productsWrap() {
        says("results wrap modulo 65536");
        turns(MULTIPLY, of(32767, 1), 32767);
        turns(MULTIPLY, of(-32768, 1), -32768);
        turns(MULTIPLY, of(-32768, -1), -32768);
        turns(MULTIPLY, of(128, 256), -32768);
        turns(MULTIPLY, of(-128, 256), -32768);
        turns(MULTIPLY, of(-129, 255), -32895 + 65536);
        turns(MULTIPLY, of(256, 256), 0);
        turns(MULTIPLY, of(257, 257), 513);
        turns(MULTIPLY, of(32767, 32767), 1);
        turns(MULTIPLY, of(32767, 2), -2);
        turns(MULTIPLY, of(-32768, 32767), -32768);
        turns(MULTIPLY, of(-32768, -32768), 0);
        turns(MULTIPLY, of(181, 181), 32761);
        turns(MULTIPLY, of(182, 181), 32942 - 65536);
    }

    private static void otherResultsWrap() {
        says("results wrap modulo 65536");
        turns(DIVIDE, of(-32768, -1), -32768);
        turns(DIVIDE, of(-32767, -1), 32767);
        turns(REST, of(-32768, -1), 0);
        turns(NEGATE, of(-32768), -32768);
        turns(NEGATE, of(-32767), 32767);
        turns(NEGATE, of(32767), -32767);
        turns(NEGATE, of(0), 0);
        turns(NEGATE, of(256), -256);
        turns(INVERT, of(32767), -32768);
        turns(INVERT, of(-32768), 32767);
        turns(INVERT, of(-1), 0);
        turns(INVERT, of(255), -256);
        runs(of(DO, I, LOOP), of(-32767, 32766), ENDED, 7, 32766, 32767, -32768);
        runs(of(DO, I, LOOP), of(-32768, 32767), ENDED, 3, 32767);
    }

    private static void sixteenCells() {
        says("There are 16 CELLS, 0 to 15, numbers");
        Forth f = make();
        for (int i = 0; i < 16; i++) {
            due("setCell(" + i + ", n)", f.setCell(i, 3000 - 400 * i), true);
        }
        for (int i = 0; i < 16; i++) {
            due("cell(" + i + ")", f.cell(i), 3000 - 400 * i);
        }
        due("setCell(-1, 1)", f.setCell(-1, 1), false);
        due("setCell(16, 1)", f.setCell(16, 1), false);
        for (int i = 0; i < 16; i++) {
            Forth one = make(i, i + 1, i);
            word(one, STORE, FETCH);
            due("20 and 19 with cell " + i, one.run(0), ENDED);
            stackIs("20 and 19 with cell " + i, one, i + 1);
            for (int other = 0; other < 16; other++) {
                due("cell(" + other + ") when cell " + i + " is set", one.cell(other), other == i ? i + 1 : 0);
            }
        }
    }

    private static void twelveOnTheStack() {
        says("a STACK of at most 12 numbers");
        Forth f = make(upTo(11));
        due("push(12) on 11", f.push(12), true);
        due("push(13) on 12", f.push(13), false);
        stackIs("push", f, upTo(12));
        runs(times(12, number(4)), of(), ENDED, 12, times(12, 4));
        runs(times(13, number(4)), of(), TOO_MANY, 12);
    }

    private static void bothOutlastRuns() {
        says("both outlast runs");
        Forth f = make(5, 6);
        f.setCell(0, 7);
        f.setCell(15, 8);
        word(f, number(9), number(3), STORE);
        word(f);
        word(f, ROT);
        due("run(0)", f.run(0), ENDED);
        due("run(1)", f.run(1), ENDED);
        stackIs("behind two runs", f, 5, 6);
        due("cell(0)", f.cell(0), 7);
        due("cell(3)", f.cell(3), 9);
        due("cell(15)", f.cell(15), 8);
        due("run(2)", f.run(2), UNDER);
        due("cell(0) behind a failure", f.cell(0), 7);
        due("cell(3) behind a failure", f.cell(3), 9);
        due("cell(15) behind a failure", f.cell(15), 8);
    }

    private static void atFirst() {
        says("at first the cells are 0 and the stack is empty");
        Forth f = make();
        due("depth()", f.depth(), 0);
        for (int i = 0; i < 16; i++) {
            due("cell(" + i + ")", f.cell(i), 0);
            due("pick(" + i + ")", f.pick(i), 0);
        }
        word(f, DROP);
        due("run(0) of DROP", f.run(0), UNDER);
        Forth other = make(4);
        other.setCell(2, 5);
        Forth third = make();
        due("depth() of one made behind another", third.depth(), 0);
        due("cell(2) of one made behind another", third.cell(2), 0);
    }

    private static void tenWords() {
        says("There are up to 10 WORDS, numbered from 0 in the order in which they were made");
        Forth f = make();
        for (int w = 0; w < 10; w++) {
            due("run(" + w + ") before it is made", f.run(w), BAD);
            due("define() of word " + w, word(f, number(70 + w)), w);
        }
        give(f, number(80));
        due("define() of an eleventh", f.define(), FULL);
        due("run(10)", f.run(10), BAD);
        for (int w = 0; w < 10; w++) {
            due("run(" + w + ")", f.run(w), ENDED);
            due("pick(0) behind it", f.pick(0), 70 + w);
        }
    }

    private static void twentyFourTokens() {
        says("a word is a list of up to 24 TOKENS, each with an op and a number n");
        Forth f = make();
        for (int i = 0; i < 23; i++) {
            due("token " + i, f.token(i % 2 == 0 ? NUMBER : DROP, i), i + 1);
        }
        due("the 24th", f.token(EXIT, 0), 24);
        due("a 25th", f.token(NUMBER, 1), FULL);
        due("define()", f.define(), 0);
        due("run(0)", f.run(0), ENDED);
        due("steps()", f.steps(), 24);
        stackIs("24 tokens", f, 22);
    }

    // ---- Terms: what the ops do at their edges ----

    private static void divisionIsCut() {
        says("a divided by b, cut towards 0; a less b times that");
        int[][] rows = {{7, 2, 3, 1}, {-7, 2, -3, -1}, {7, -2, -3, 1}, {-7, -2, 3, -1}, {1, 2, 0, 1}, {-1, 2, 0, -1},
            {1, -2, 0, 1}, {-1, -2, 0, -1}, {6, 2, 3, 0}, {-6, 2, -3, 0}, {0, 5, 0, 0}, {0, -5, 0, 0},
            {32767, 1, 32767, 0}, {32767, -1, -32767, 0}, {-32768, 1, -32768, 0}, {-32768, 2, -16384, 0},
            {32767, 32767, 1, 0}, {32766, 32767, 0, 32766}, {-32768, 32767, -1, -1}, {-32768, -32768, 1, 0},
            {32767, -32768, 0, 32767}, {-32767, -32768, 0, -32767}, {1000, 256, 3, 232}, {-1000, 256, -3, -232},
            {256, 255, 1, 1}, {255, 256, 0, 255}, {-32768, -2, 16384, 0}, {32767, 10, 3276, 7}};
        for (int[] row : rows) {
            turns(DIVIDE, of(row[0], row[1]), row[2]);
            turns(REST, of(row[0], row[1]), row[3]);
        }
    }

    private static void divisionByZero() {
        says("9 and 10: b = 0 is an error, ZERO");
        for (int op : of(DIVIDE, REST)) {
            for (int a : of(0, 1, -1, 32767, -32768)) {
                runs(of(op), of(5, a, 0), ZERO, 0);
            }
            turns(op, of(5, 0, 1), 5, 0);
            turns(op, of(5, 0, -1), 5, 0);
            turns(op, of(5, 0, 256), 5, 0);
            turns(op, of(0, 0, -32768), 0, 0);
            runs(of(number(3), number(0), op), of(), ZERO, 2);
        }
    }

    private static void truth() {
        says("truth being -1 and 0");
        int[] edges = {-32768, -32767, -256, -1, 0, 1, 255, 256, 32766, 32767};
        for (int a : edges) {
            for (int b : edges) {
                turns(LESS, of(a, b), a < b ? -1 : 0);
                turns(EQUAL, of(a, b), a == b ? -1 : 0);
            }
            turns(IS_ZERO, of(a), a == 0 ? -1 : 0);
        }
    }

    private static void bits() {
        says("a b -> a & b; a | b; a ^ b; all bits of a turned over");
        turns(AND, of(-1, 32767), 32767);
        turns(AND, of(-32768, -1), -32768);
        turns(AND, of(-32768, 32767), 0);
        turns(AND, of(0x0ff0, 0x3c3c), 0x0c30);
        turns(OR, of(-32768, 32767), -1);
        turns(OR, of(-32768, 0), -32768);
        turns(OR, of(0x0ff0, 0x3c3c), 0x3ffc);
        turns(XOR, of(-32768, 32767), -1);
        turns(XOR, of(-1, -1), 0);
        turns(XOR, of(-1, 32767), -32768);
        turns(XOR, of(0x0ff0, 0x3c3c), 0x33cc);
        turns(INVERT, of(0), -1);
        turns(INVERT, of(0x0ff0), ~0x0ff0);
    }

    private static void cellNumbersAreMasked() {
        says("a -> cell a & 15; a b -> and cell b & 15 becomes a");
        int[][] rows = {{0, 0}, {15, 15}, {16, 0}, {31, 15}, {32, 0}, {-1, 15}, {-15, 1}, {-16, 0}, {-17, 15},
            {255, 15}, {256, 0}, {261, 5}, {32767, 15}, {-32768, 0}, {-32767, 1}};
        for (int[] row : rows) {
            Forth f = make(-321, row[0]);
            word(f, STORE);
            word(f, FETCH);
            due("run(0) of 20 with b = " + row[0], f.run(0), ENDED);
            for (int i = 0; i < 16; i++) {
                due("cell(" + i + ") then", f.cell(i), i == row[1] ? -321 : 0);
            }
            stackIs("20", f);
            f.push(row[0]);
            due("run(1) of 19 with a = " + row[0], f.run(1), ENDED);
            stackIs("19", f, -321);
        }
    }

    private static void digits() {
        says("the digits of a, after a - if it is below 0, and then a blank are added to the text");
        int[] edges = {0, 1, 9, 10, 11, 99, 100, 101, 109, 110, 127, 128, 255, 256, 999, 1000, 1001, 9999, 10000, 10001,
            20000, 30000, 32766, 32767};
        for (int a : edges) {
            for (int n : of(a, -a, -a - 1)) {
                Forth f = make(n);
                word(f, PRINT);
                due("run(0)", f.run(0), ENDED);
                textIs("21 of " + n, f, n + " ");
            }
        }
        Forth f = make(-5, 0, 12);
        word(f, PRINT, PRINT, PRINT);
        due("run(0)", f.run(0), ENDED);
        textIs("21 three times", f, "12 0 -5 ");
    }

    private static void callExecutesAWord() {
        says("CALL: the tokens of word n are executed");
        Forth f = make();
        word(f);
        word(f, number(1), EXIT, number(2));
        word(f, call(0), call(1), number(3), call(1));
        due("run(2)", f.run(2), ENDED);
        stackIs("calls of 0 and 1", f, 1, 3, 1);
        due("steps()", f.steps(), 8);
        for (int w = 3; w < 9; w++) {
            word(f, number(w));
        }
        word(f, call(8), call(0), call(3));
        due("run(9), which calls 8, 0 and 3", f.run(9), ENDED);
        stackIs("calls of 8, 0 and 3", f, 1, 3, 1, 8, 3);
        Forth self = make(3);
        word(self, DUP, PRINT, number(1), SUBTRACT, DUP, IF, call(0), THEN);
        due("run(0), which calls itself", self.run(0), ENDED);
        textIs("a word that calls itself", self, "3 2 1 ");
    }

    private static void onlyZeroIsNotTrue() {
        says("IF, UNTIL, WHILE: if a is 0 it goes on behind ...");
        for (int a : of(1, -1, 2, 255, 256, -256, 512, 4096, 16384, 32767, -32768)) {
            runs(of(IF, number(5), THEN), of(a), ENDED, 2, 5);
            runs(of(IF, number(5), ELSE, number(6), THEN), of(a), ENDED, 3, 5);
            runs(of(BEGIN, UNTIL), of(8, a), ENDED, 1, 8);
            runs(of(BEGIN, WHILE, REPEAT), of(8, 0, a), ENDED, 3, 8);
        }
        runs(of(IF, number(5), THEN), of(0), ENDED, 1);
        runs(of(IF, number(5), ELSE, number(6), THEN), of(0), ENDED, 2, 6);
        runs(of(BEGIN, UNTIL), of(8, 1, 0), ENDED, 2, 8);
        runs(of(BEGIN, WHILE, REPEAT), of(8, 0), ENDED, 1, 8);
    }

    private static void goesOnBehind() {
        says("IF goes on behind its ELSE, or its THEN; ELSE behind its THEN; UNTIL and REPEAT behind their BEGIN; "
            + "WHILE behind its REPEAT");
        int[] nested = {IF, IF, number(1), ELSE, number(2), THEN, number(3), ELSE, IF, number(4), THEN, number(5), THEN,
            number(6)};
        runs(nested, of(1, 1), ENDED, 7, 1, 3, 6);
        runs(nested, of(0, 1), ENDED, 6, 2, 3, 6);
        runs(nested, of(1, 0), ENDED, 5, 4, 5, 6);
        runs(nested, of(0, 0), ENDED, 4, 5, 6);
        runs(of(number(1), IF, BEGIN, BEGIN, UNTIL, UNTIL, THEN, number(9)), of(2, 3, 0, 4, 0), ENDED, 8, 9);
        runs(of(BEGIN, BEGIN, WHILE, number(7), PRINT, REPEAT, WHILE, number(8), PRINT, REPEAT, number(9)),
            of(0, 0, 1, 1, 0, 1), ENDED, 16, 9);
        runs(of(IF, THEN, BEGIN, number(1), ADD, DUP, number(3), EQUAL, UNTIL), of(0, 1), ENDED, 19, 3);
        runs(of(IF, ELSE, THEN, IF, ELSE, THEN, number(2)), of(1, 0), ENDED, 4, 2);
    }

    private static void loopsWithLimitAndCount() {
        says("DO: a loop of this call is begun with the limit a and the count b; LOOP: the count grows by 1; if it is "
            + "equal to the limit that loop is over");
        runs(of(DO, I, LOOP), of(1, 0), ENDED, 3, 0);
        runs(of(DO, I, LOOP), of(2, 0), ENDED, 5, 0, 1);
        runs(of(DO, I, LOOP), of(1, -1), ENDED, 5, -1, 0);
        runs(of(DO, I, LOOP), of(257, 254), ENDED, 7, 254, 255, 256);
        runs(of(DO, I, LOOP), of(129, 126), ENDED, 7, 126, 127, 128);
        runs(of(DO, I, LOOP), of(-255, -257), ENDED, 5, -257, -256);
        runs(of(DO, LOOP), of(5, 5), TIRED, 300);
        runs(of(DO, LOOP), of(5, 6), TIRED, 300);
        runs(of(DO, LOOP), of(32767, -32768), TIRED, 300);
        runs(of(DO, LOOP), of(256, 0), ENDED, 257);
        runs(of(number(3), number(1), DO, number(9), number(7), DO, I, LOOP, I, LOOP), of(), ENDED, 21, 7, 8, 1, 7, 8, 2);
    }

    private static void latestLoopOfThisCall() {
        says("I: -> the count of the latest loop of this call");
        Forth f = make();
        word(f, number(31), number(30), DO, I, PRINT, LOOP);
        word(f, number(3), number(1), DO, call(0), I, PRINT, call(0), LOOP);
        due("run(1)", f.run(1), ENDED);
        textIs("I behind a call with a loop", f, "30 1 30 30 2 30 ");
        word(f, number(12), number(10), DO, I, PRINT, number(22), number(21), DO, I, PRINT, LOOP, I, PRINT, LOOP);
        due("run(2)", f.run(2), ENDED);
        textIs("I behind an inner loop", f, "10 21 10 11 21 11 ");
    }

    private static void exitEndsThisCall() {
        says("EXIT: this call is over; when a call is over, its loops are");
        runs(of(EXIT), of(), ENDED, 1);
        runs(of(EXIT, DROP), of(), ENDED, 1);
        runs(of(number(1), IF, EXIT, THEN, DROP), of(), ENDED, 3);
        Forth f = make();
        word(f, number(5), number(0), DO, number(5), number(0), DO, number(5), number(0), DO, EXIT, LOOP, LOOP, LOOP);
        word(f, number(33), number(30), DO, call(0), I, PRINT, LOOP);
        due("run(1)", f.run(1), ENDED);
        textIs("I behind a call that left three loops", f, "30 31 32 ");
        due("steps()", f.steps(), 3 + 3 * 14);
        word(f, call(0), call(0), call(0), call(0), call(0), call(0), call(0));
        due("run(2), which leaves 21 loops", f.run(2), ENDED);
        due("steps()", f.steps(), 7 * 11);
        Forth once = make();
        word(once, number(9), number(0), DO, number(9), number(0), DO, number(9), number(0), DO, number(9), number(0), DO,
            EXIT, LOOP, LOOP, LOOP, LOOP);
        due("run(0)", once.run(0), ENDED);
        due("run(0) again finds no loops of the run before", once.run(0), ENDED);
    }

    private static void behindTheLastToken() {
        says("behind the last one the call is over");
        runs(of(), of(4), ENDED, 0, 4);
        runs(of(IF, number(1), THEN), of(0), ENDED, 1);
        runs(of(IF, number(1), ELSE, THEN), of(0), ENDED, 1);
        runs(of(IF, ELSE, number(1), THEN), of(1), ENDED, 2);
        runs(of(BEGIN, WHILE, REPEAT), of(0), ENDED, 1);
        runs(of(BEGIN, UNTIL), of(1), ENDED, 1);
        runs(of(DO, LOOP), of(1, 0), ENDED, 2);
        Forth f = make();
        word(f, IF, number(7), THEN);
        word(f, number(0), call(0));
        word(f, number(1), call(0), call(1), number(8), call(1));
        due("run(2)", f.run(2), ENDED);
        stackIs("calls that end behind their last token", f, 7, 8);
        due("steps()", f.steps(), 2 + 2 + 1 + 3 + 1 + 1 + 3);
    }

    // ---- Terms: the parts ----

    private static void ifWithThen() {
        says("IF with THEN, perhaps with one ELSE between");
        fit(true, IF, THEN);
        fit(true, IF, ELSE, THEN);
        fit(true, IF, THEN, IF, ELSE, THEN);
        fit(false, IF);
        fit(false, THEN);
        fit(false, ELSE);
        fit(false, THEN, IF);
        fit(false, IF, ELSE);
        fit(false, ELSE, THEN);
        fit(false, IF, ELSE, ELSE, THEN);
        fit(false, IF, THEN, ELSE);
        fit(false, IF, THEN, THEN);
        fit(false, IF, ELSE, THEN, THEN);
        fit(false, IF, THEN, ELSE, THEN);
        fit(false, IF, IF, THEN);
        fit(false, IF, IF, ELSE, THEN);
        fit(false, IF, UNTIL);
        fit(false, IF, LOOP);
        fit(false, IF, REPEAT);
        fit(false, IF, WHILE, REPEAT);
    }

    private static void beginWithUntil() {
        says("BEGIN with UNTIL; BEGIN with one WHILE and then REPEAT");
        fit(true, BEGIN, UNTIL);
        fit(true, BEGIN, WHILE, REPEAT);
        fit(true, BEGIN, BEGIN, UNTIL, WHILE, BEGIN, UNTIL, REPEAT);
        fit(false, BEGIN);
        fit(false, UNTIL);
        fit(false, WHILE);
        fit(false, REPEAT);
        fit(false, UNTIL, BEGIN);
        fit(false, BEGIN, WHILE);
        fit(false, BEGIN, REPEAT);
        fit(false, WHILE, REPEAT);
        fit(false, BEGIN, WHILE, UNTIL);
        fit(false, BEGIN, WHILE, WHILE, REPEAT);
        fit(false, BEGIN, WHILE, REPEAT, REPEAT);
        fit(false, BEGIN, WHILE, REPEAT, UNTIL);
        fit(false, BEGIN, UNTIL, UNTIL);
        fit(false, BEGIN, UNTIL, WHILE, REPEAT);
        fit(false, BEGIN, BEGIN, UNTIL);
        fit(false, BEGIN, THEN);
        fit(false, BEGIN, ELSE, THEN);
        fit(false, BEGIN, LOOP);
        fit(false, BEGIN, WHILE, LOOP);
        fit(false, BEGIN, WHILE, THEN);
    }

    private static void doWithLoop() {
        says("DO with LOOP");
        fit(true, DO, LOOP);
        fit(true, DO, DO, LOOP, LOOP);
        fit(false, DO);
        fit(false, LOOP);
        fit(false, LOOP, DO);
        fit(false, DO, LOOP, LOOP);
        fit(false, DO, DO, LOOP);
        fit(false, DO, UNTIL);
        fit(false, DO, WHILE, REPEAT);
        fit(false, DO, REPEAT);
        fit(false, DO, THEN);
        fit(false, DO, ELSE, LOOP);
    }

    private static void endsBetween() {
        says("what is begun between two that belong together must end between them");
        fit(true, IF, BEGIN, UNTIL, THEN);
        fit(true, DO, IF, THEN, LOOP);
        fit(true, BEGIN, DO, LOOP, UNTIL);
        fit(false, IF, BEGIN, THEN, UNTIL);
        fit(false, IF, DO, THEN, LOOP);
        fit(false, BEGIN, IF, UNTIL, THEN);
        fit(false, BEGIN, DO, UNTIL, LOOP);
        fit(false, DO, IF, LOOP, THEN);
        fit(false, DO, BEGIN, LOOP, UNTIL);
        fit(false, DO, BEGIN, WHILE, LOOP, REPEAT);
        fit(false, BEGIN, IF, WHILE, REPEAT, THEN);
        fit(false, IF, BEGIN, WHILE, THEN, REPEAT);
    }

    private static void betweenTheSameNeighbours() {
        says("for IF, ELSE, THEN and BEGIN, WHILE, REPEAT: between the same two neighbours");
        fit(true, IF, DO, LOOP, ELSE, DO, LOOP, THEN);
        fit(true, IF, IF, THEN, ELSE, BEGIN, WHILE, REPEAT, THEN);
        fit(true, BEGIN, IF, THEN, WHILE, IF, ELSE, THEN, REPEAT);
        fit(false, IF, DO, ELSE, LOOP, THEN);
        fit(false, IF, BEGIN, ELSE, UNTIL, THEN);
        fit(false, IF, BEGIN, ELSE, WHILE, REPEAT, THEN);
        fit(false, IF, BEGIN, WHILE, ELSE, REPEAT, THEN);
        fit(false, IF, ELSE, DO, THEN, LOOP);
        fit(false, BEGIN, IF, WHILE, THEN, REPEAT);
        fit(false, BEGIN, IF, WHILE, ELSE, THEN, REPEAT);
        fit(false, BEGIN, DO, WHILE, LOOP, REPEAT);
        fit(false, BEGIN, WHILE, IF, REPEAT, THEN);
        fit(false, BEGIN, BEGIN, WHILE, UNTIL, REPEAT);
    }

    private static void partsOfTheMostTokens() {
        says("The PARTS of a word must fit into each other");
        fit(true, join(times(12, IF), times(12, THEN)));
        fit(true, join(times(12, DO), times(12, LOOP)));
        fit(true, join(times(12, BEGIN), times(12, UNTIL)));
        fit(true, join(times(8, BEGIN), of(WHILE, REPEAT, WHILE, REPEAT, WHILE, REPEAT, WHILE, REPEAT),
            of(WHILE, REPEAT, WHILE, REPEAT, WHILE, REPEAT, WHILE, REPEAT)));
        fit(false, times(24, IF));
        fit(false, times(24, BEGIN));
        fit(false, times(24, DO));
        fit(false, times(24, THEN));
        fit(false, join(times(13, IF), times(11, THEN)));
        fit(false, join(times(11, IF), times(13, THEN)));
        fit(false, join(times(23, NUMBER), of(IF)));
        fit(false, join(times(23, NUMBER), of(THEN)));
        fit(true, times(24, EXIT));
        fit(true);
    }

    private static void iInsideALoop() {
        says("I stands between a DO and its LOOP");
        fit(true, DO, I, LOOP);
        fit(true, DO, DO, LOOP, I, LOOP);
        fit(true, DO, IF, I, ELSE, I, THEN, LOOP);
        fit(true, DO, BEGIN, I, WHILE, I, REPEAT, LOOP);
        fit(false, I);
        fit(false, I, DO, LOOP);
        fit(false, DO, LOOP, I);
        fit(false, DO, DO, LOOP, LOOP, I);
        fit(false, IF, I, THEN);
        fit(false, BEGIN, I, UNTIL);
        fit(false, IF, DO, LOOP, ELSE, I, THEN);
        Forth f = make();
        word(f, DO, LOOP);
        due("define() of I that only a caller's loop would be around", word(f, I), BAD);
    }

    private static void callNamesAWordThatIsThere() {
        says("CALL names a word that is there, or the word itself");
        for (int words = 0; words < 10; words++) {
            for (int w : of(0, words - 1, words, words + 1, 9)) {
                if (w < 0 || w > 9) {
                    continue;
                }
                Forth f = make();
                for (int made = 0; made < words; made++) {
                    f.define();
                }
                due("token(22, " + w + ")", f.token(CALL, w), 1);
                due("define() of a call of " + w + " as word " + words, f.define(), w <= words ? words : BAD);
            }
        }
        Forth f = make();
        word(f, number(1));
        word(f, number(2));
        f.forget();
        due("define() of a call of a word that is the second behind", word(f, call(2)), BAD);
        f.cancel();
        due("define() of a call of the number of the word forgotten, now itself", word(f, call(1)), 1);
        due("run(1)", f.run(1), DEEP);
        f.forget();
        f.forget();
        due("define() of a call of a word forgotten", word(f, call(1)), BAD);
    }

    private static void callOfAWordForgottenMeanwhile() {
        says("CALL names a word that is there, or the word itself (when it is made, not when the token is given)");
        Forth f = make();
        f.define();
        f.define();
        f.define();
        due("token(22, 1) with 3 words", f.token(CALL, 1), 1);
        f.forget();
        f.forget();
        f.forget();
        due("define() with none left", f.define(), BAD);
        due("cancel()", f.cancel(), 1);
        word(f, number(1));
        word(f, number(2));
        due("token(22, 1) with 2 words", f.token(CALL, 1), 1);
        f.forget();
        due("define() of a call of 1, now itself", f.define(), 1);
        due("run(1)", f.run(1), DEEP);
        due("steps()", f.steps(), 7);
    }

    // ---- Terms: steps, and how a run ends ----

    /** A token in its place: what is before and behind it, and what the stack is before and after. */
    private static final class Place {
        final int token;
        int[] lead = {};
        int leadSteps;
        int[] tail = {};
        int tailSteps;
        int[] before = {};
        int[] after = {};

        Place(int token) {
            this.token = token;
        }

        Place lead(int steps, int... tokens) {
            leadSteps = steps;
            lead = tokens;
            return this;
        }

        Place tail(int steps, int... tokens) {
            tailSteps = steps;
            tail = tokens;
            return this;
        }

        Place stack(int[] numbersBefore, int... numbersAfter) {
            before = numbersBefore;
            after = numbersAfter;
            return this;
        }

        int[] tokens() {
            return join(lead, of(token), tail);
        }

        boolean isStep() {
            return token != THEN && token != BEGIN;
        }

        int steps() {
            return leadSteps + (isStep() ? 1 : 0) + tailSteps;
        }
    }

    /** Each op once, with no number below those that are needed. CALL calls the word itself, and does so once. */
    private static Place[] places() {
        return new Place[] {
            new Place(number(5)).stack(of(), 5), new Place(DUP).stack(of(7), 7, 7), new Place(DROP).stack(of(7)),
            new Place(SWAP).stack(of(1, 2), 2, 1), new Place(OVER).stack(of(1, 2), 1, 2, 1),
            new Place(ROT).stack(of(1, 2, 3), 2, 3, 1), new Place(ADD).stack(of(7, 5), 12),
            new Place(SUBTRACT).stack(of(7, 5), 2), new Place(MULTIPLY).stack(of(7, 5), 35),
            new Place(DIVIDE).stack(of(17, 5), 3), new Place(REST).stack(of(17, 5), 2), new Place(LESS).stack(of(5, 7), -1),
            new Place(EQUAL).stack(of(5, 7), 0), new Place(IS_ZERO).stack(of(0), -1), new Place(AND).stack(of(6, 3), 2),
            new Place(OR).stack(of(6, 3), 7), new Place(XOR).stack(of(6, 3), 5), new Place(INVERT).stack(of(6), -7),
            new Place(NEGATE).stack(of(6), -6), new Place(FETCH).stack(of(6), 0), new Place(STORE).stack(of(6, 3)),
            new Place(PRINT).stack(of(6)), new Place(call(0)).lead(1, IF).tail(1, THEN).stack(of(0, 1)),
            new Place(IF).tail(0, THEN).stack(of(1)), new Place(ELSE).lead(1, IF).tail(0, DROP, THEN).stack(of(1)),
            new Place(THEN).lead(1, IF).stack(of(1)), new Place(BEGIN).tail(1, UNTIL).stack(of(1)),
            new Place(UNTIL).lead(0, BEGIN).stack(of(1)), new Place(WHILE).lead(0, BEGIN).tail(0, REPEAT).stack(of(0)),
            new Place(REPEAT).lead(1, BEGIN, WHILE).tail(1).stack(of(0, 1)), new Place(DO).tail(1, LOOP).stack(of(1, 0)),
            new Place(LOOP).lead(1, DO).stack(of(1, 0)), new Place(I).lead(1, DO).tail(1, LOOP).stack(of(1, 0), 0),
            new Place(EXIT).tail(0, DROP),
        };
    }

    private static void stepsOfEachToken() {
        says("A run counts STEPS: one for each token executed, but for THEN and BEGIN");
        Place[] places = places();
        for (int op = 0; op < places.length; op++) {
            due("the op of place " + op, places[op].token & 255, op);
            runs(places[op].tokens(), places[op].before, ENDED, places[op].steps(), places[op].after);
        }
        runs(of(BEGIN, BEGIN, BEGIN, UNTIL, UNTIL, UNTIL), of(1, 1, 1), ENDED, 3);
        runs(of(IF, IF, THEN, THEN), of(1, 1), ENDED, 2);
        runs(of(IF, number(1), ELSE, number(2), THEN), of(0), ENDED, 2, 2);
        runs(of(number(1), number(2), EXIT, number(3)), of(), ENDED, 3, 1, 2);
    }

    /** CALL of the word itself would burn again, so it calls an empty word where steps are burned. */
    private static void runsBehind(int burned, Place place, int end, int steps, int... after) {
        Forth f = make();
        f.define();
        for (int number : place.before) {
            f.push(number);
        }
        int[] tokens = join(burn(burned), place.tokens());
        String what = named(place.tokens()) + " behind " + burned + " steps";
        due(what + ", define()", word(f, tokens), 1);
        due(what + ", run(1)", f.run(1), end);
        due(what + ", steps()", f.steps(), steps);
        stackIs(what, f, after);
    }

    private static void tiredAtEachToken() {
        says("TIRED (300 steps have been made, and it would be one)");
        for (Place place : places()) {
            Place used = place;
            if ((place.token & 255) == CALL) {
                used = new Place(call(0));
            }
            runsBehind(300 - used.steps(), used, ENDED, 300, used.after);
            if (used.isStep()) {
                runsBehind(300 - used.leadSteps, used, TIRED, 300);
            }
        }
    }

    private static void threeHundredSteps() {
        says("TIRED (300 steps have been made, and it would be one)");
        runs(of(DO, LOOP), of(298, 0), ENDED, 299);
        runs(of(DO, LOOP), of(299, 0), ENDED, 300);
        runs(of(DO, LOOP), of(300, 0), TIRED, 300);
        runs(of(DO, LOOP), of(301, 0), TIRED, 300);
        runs(join(burn(300), of(DROP)), of(6), TIRED, 300);
        runs(join(burn(299), of(DROP)), of(6), ENDED, 300);
        Forth f = make();
        word(f, burn(24));
        word(f, times(12, call(0)));
        due("run(1), 12 calls of 25 steps", f.run(1), ENDED);
        due("steps()", f.steps(), 300);
        word(f, join(of(NUMBER, DROP), times(11, call(0)), of(EXIT)));
        due("run(2)", f.run(2), ENDED);
        due("steps()", f.steps(), 278);
        word(f, join(times(12, call(0)), of(EXIT)));
        due("run(3), EXIT as step 301", f.run(3), TIRED);
        word(f, join(of(number(3), number(4)), times(12, call(0))));
        due("run(4)", f.run(4), TIRED);
        due("steps()", f.steps(), 300);
        stackIs("run(4)", f);
    }

    private static void thenAndBeginBehindTheLastStep() {
        says("TIRED (300 steps have been made, and it would be one)");
        runs(join(burn(299), of(IF, THEN)), of(1), ENDED, 300);
        runs(join(burn(298), of(IF, IF, THEN, THEN)), of(1, 1), ENDED, 300);
        runs(join(burn(298), of(IF, ELSE, THEN)), of(1), ENDED, 300);
        runs(join(burn(299), of(BEGIN, UNTIL)), of(1), ENDED, 300);
        runs(join(burn(300), of(BEGIN, UNTIL)), of(1), TIRED, 300);
        runs(join(burn(298), of(BEGIN, UNTIL)), of(8, 1, 0), ENDED, 300, 8);
        Forth f = make();
        word(f, join(burn(297), of(number(1), IF, THEN)));
        word(f, number(1), IF, number(1), IF, call(0), THEN, THEN);
        due("run(0)", f.run(0), ENDED);
        due("steps()", f.steps(), 299);
        due("run(1)", f.run(1), TIRED);
        due("steps()", f.steps(), 300);
        word(f, join(burn(293), of(number(1), IF, THEN)));
        word(f, number(1), IF, number(1), IF, call(2), THEN, THEN);
        due("run(3), THEN of two calls behind step 300", f.run(3), ENDED);
        due("steps()", f.steps(), 300);
    }

    private static void underAtEachToken() {
        says("UNDER (too few numbers are on the stack)");
        for (Place place : places()) {
            boolean takes = place.leadSteps == 0 && place.before.length > 0;
            if (!takes || place.token == BEGIN) {
                continue;
            }
            for (int there = 0; there < place.before.length; there++) {
                runs(place.tokens(), Arrays.copyOf(place.before, there), UNDER, 0);
            }
        }
        runs(of(NUMBER, ROT), of(1), UNDER, 1);
        runs(of(NUMBER, ROT), of(1, 2), ENDED, 2, 2, 0, 1);
        runs(of(IF, IF, THEN, THEN), of(1), UNDER, 1);
        runs(of(DO, DROP, LOOP), of(9, 1, 0), ENDED, 3);
        runs(of(DO, DROP, LOOP), of(1, 0), UNDER, 1);
    }

    private static void zeroIsNotExecuted() {
        says("ZERO");
        runs(of(DIVIDE), of(1, 0), ZERO, 0);
        runs(of(REST), of(1, 0), ZERO, 0);
        runs(of(DIVIDE), join(times(11, 1), of(0)), ZERO, 0);
        runs(of(DUP, DUP, SUBTRACT, DIVIDE), of(1), ZERO, 3);
        runs(of(NUMBER, DIVIDE), of(1), ZERO, 1);
        runs(of(MULTIPLY, ADD, LESS), of(0, 0, 0, 0), ENDED, 3, 0);
    }

    private static void overAtEachToken() {
        says("OVER (more than 12 would be on it)");
        for (Place place : places()) {
            if (place.leadSteps > 0 || place.token == BEGIN) {
                continue;
            }
            boolean grows = place.after.length > place.before.length;
            int[] below = upTo(12 - place.before.length);
            int[] full = join(below, place.before);
            if (grows) {
                runs(place.tokens(), full, TOO_MANY, 0);
                int[] lower = Arrays.copyOf(below, below.length - 1);
                runs(place.tokens(), join(lower, place.before), ENDED, 1, join(lower, place.after));
            } else {
                runs(place.tokens(), full, ENDED, place.steps(), join(below, place.after));
            }
        }
    }

    private static void overInsideParts() {
        says("OVER (more than 12 would be on it)");
        int[] ten = upTo(10);
        runs(of(DO, number(6), I, LOOP), join(ten, of(1, 0)), ENDED, 4, join(ten, of(6, 0)));
        runs(of(DO, number(6), number(6), I, LOOP), join(ten, of(1, 0)), TOO_MANY, 3);
        runs(of(DO, number(6), number(6), LOOP), join(ten, of(1, 0)), ENDED, 4, join(ten, of(6, 6)));
        runs(of(IF, number(6), ELSE, THEN), join(ten, of(8, 1)), ENDED, 3, join(ten, of(8, 6)));
        runs(of(BEGIN, WHILE, number(0), REPEAT), join(ten, of(8, 1)), ENDED, 4, join(ten, of(8)));
        Forth f = make(upTo(12));
        word(f);
        word(f, call(0));
        due("CALL on a full stack", f.run(1), ENDED);
        stackIs("CALL on a full stack", f, upTo(12));
        word(f, DROP, number(3), DUP);
        due("run(2)", f.run(2), TOO_MANY);
        due("steps()", f.steps(), 2);
    }

    private static void eightCalls() {
        says("DEEP (CALL while 8 calls are going on, the first one among them)");
        int[] again = {DUP, IF, number(1), SUBTRACT, call(0), THEN};
        runs(again, of(6), ENDED, 6 * 5 + 2, 0);
        runs(again, of(7), ENDED, 7 * 5 + 2, 0);
        runs(again, of(8), DEEP, 7 * 5 + 4);
        Forth f = make();
        word(f);
        for (int w = 1; w < 10; w++) {
            word(f, call(w - 1));
        }
        due("run(6), 7 calls", f.run(6), ENDED);
        due("run(7), 8 calls", f.run(7), ENDED);
        due("steps()", f.steps(), 7);
        due("run(8), 9 calls", f.run(8), DEEP);
        due("steps()", f.steps(), 7);
        due("run(9), 10 calls", f.run(9), DEEP);
        due("steps()", f.steps(), 7);
        due("run(7) behind a run that was too deep", f.run(7), ENDED);
        runs(of(call(0)), of(), DEEP, 7);
    }

    private static void callsThatAreOver() {
        says("DEEP (CALL while 8 calls are going on ...): calls that are over are not among them");
        Forth f = make();
        word(f, EXIT, DROP);
        word(f, call(0), call(0), call(0), call(0), call(0), call(0), call(0), call(0), call(0), call(0));
        due("run(1), 10 calls one behind another", f.run(1), ENDED);
        due("steps()", f.steps(), 20);
        for (int w = 2; w < 8; w++) {
            word(f, call(w - 1), call(w - 1));
        }
        due("run(3), 8 times 10 calls at most 5 deep", f.run(3), ENDED);
        Forth last = make();
        word(last);
        word(last, call(0), call(0));
        for (int w = 2; w < 8; w++) {
            word(last, call(w - 1));
        }
        due("run(7), its eighth call twice", last.run(7), ENDED);
        due("steps()", last.steps(), 8);
    }

    private static void sixLoops() {
        says("DEEP (DO while 6 loops are going on, in all calls together)");
        int[] pairs = {1, 0, 1, 0, 1, 0, 1, 0, 1, 0, 1, 0};
        runs(join(times(6, DO), times(6, LOOP)), pairs, ENDED, 12);
        runs(join(times(6, DO), of(number(1), number(0), DO), times(7, LOOP)), pairs, DEEP, 8);
        runs(join(times(5, DO), of(number(1), number(0), DO, LOOP, number(1), number(0), DO, LOOP), times(5, LOOP)),
            Arrays.copyOf(pairs, 10), ENDED, 18);
        Forth f = make();
        word(f, number(1), number(0), DO, LOOP);
        word(f, number(1), number(0), DO, number(1), number(0), DO, number(1), number(0), DO, call(0), LOOP, LOOP, LOOP);
        word(f, number(1), number(0), DO, number(1), number(0), DO, call(1), LOOP, LOOP);
        word(f, number(1), number(0), DO, call(2), LOOP);
        due("run(2), 6 loops in 3 calls", f.run(2), ENDED);
        due("steps()", f.steps(), 6 + 1 + 9 + 1 + 4 + 3 + 2);
        due("run(3), 7 loops in 4 calls", f.run(3), DEEP);
        due("steps()", f.steps(), 3 + 1 + 6 + 1 + 9 + 1 + 2);
        due("run(2) behind a run that was too deep", f.run(2), ENDED);
        word(f, number(2), number(0), DO, call(2), LOOP);
        due("run(4)", f.run(4), DEEP);
    }

    private static void leftLoopsDoNotCount() {
        says("DEEP (DO while 6 loops are going on ...): when a call is over, its loops are");
        Forth f = make();
        word(f, number(9), number(0), DO, number(9), number(0), DO, EXIT, LOOP, LOOP);
        word(f, number(1), number(0), DO, number(1), number(0), DO, number(1), number(0), DO, number(1), number(0), DO,
            call(0), call(0), LOOP, LOOP, LOOP, LOOP);
        due("run(1), twice 6 loops", f.run(1), ENDED);
        word(f, number(1), number(0), DO, call(1), LOOP);
        due("run(2), 7 loops", f.run(2), DEEP);
        word(f, call(0), call(0), call(0), call(0));
        due("run(3), 8 loops left one behind another", f.run(3), ENDED);
    }

    private static void tiredComesFirst() {
        says("the first of these that applies to a token: TIRED before UNDER, ZERO, OVER and DEEP");
        runs(join(burn(300), of(DROP)), of(), TIRED, 300);
        runs(join(burn(299), of(DROP)), of(), UNDER, 299);
        runs(join(burn(300), of(DIVIDE)), of(1, 0), TIRED, 300);
        runs(join(burn(299), of(DIVIDE)), of(1, 0), ZERO, 299);
        runs(join(burn(300), of(REST)), of(0), TIRED, 300);
        runs(join(burn(299), of(REST)), of(0), UNDER, 299);
        runs(join(burn(298), of(number(1), number(2), DUP)), upTo(10), TIRED, 300);
        runs(join(burn(297), of(number(1), number(2), DUP)), upTo(10), TOO_MANY, 299);
        for (int deepest = 292; deepest <= 293; deepest++) {
            Forth f = make();
            word(f, join(burn(deepest), of(call(0))));
            for (int w = 1; w < 8; w++) {
                word(f, call(w - 1));
            }
            due("run(7), a ninth call behind " + (deepest + 7) + " steps", f.run(7), deepest == 292 ? DEEP : TIRED);
            due("steps()", f.steps(), deepest + 7);
        }
        int[] pairs = {1, 0, 1, 0, 1, 0, 1, 0, 1, 0};
        int[] seven = join(times(5, DO), of(number(1), number(0), DO, number(1), number(0), DO), times(7, LOOP));
        runs(join(burn(290), seven), pairs, TIRED, 300);
        runs(join(burn(289), seven), pairs, DEEP, 299);
    }

    private static void underComesBeforeZeroAndDeep() {
        says("the first of these that applies to a token: UNDER before ZERO and DEEP");
        runs(of(DIVIDE), of(0), UNDER, 0);
        runs(of(REST), of(0), UNDER, 0);
        runs(of(DIVIDE), of(), UNDER, 0);
        runs(of(DIVIDE), of(0, 0), ZERO, 0);
        int[] pairs = {1, 0, 1, 0, 1, 0, 1, 0, 1, 0, 1, 0};
        runs(join(times(6, DO), of(DO), times(7, LOOP)), pairs, UNDER, 6);
        runs(join(times(6, DO), of(number(1), DO), times(7, LOOP)), pairs, UNDER, 7);
        runs(join(times(6, DO), of(number(1), DUP, DO), times(7, LOOP)), pairs, DEEP, 8);
    }

    private static void theTokenIsNotExecuted() {
        says("It ends with the first of these that applies to a token, which is not executed then");
        Forth f = make(9);
        f.setCell(9, 3);
        word(f, STORE);
        due("20 with one number", f.run(0), UNDER);
        due("cell(9)", f.cell(9), 3);
        due("cell(0)", f.cell(0), 0);
        Forth tired = make(77, 9, 9);
        tired.setCell(9, 3);
        word(tired, join(burn(299), of(PRINT, STORE)));
        due("21 as step 300 and 20 behind it", tired.run(0), TIRED);
        due("cell(9)", tired.cell(9), 3);
        textIs("21 as step 300", tired, "9 ");
        word(tired, join(burn(300), of(PRINT)));
        tired.push(5);
        due("21 as step 301", tired.run(1), TIRED);
        textIs("21 as step 301", tired, "");
        Forth deep = make();
        word(deep, number(6), PRINT, call(0));
        due("a word that calls itself", deep.run(0), DEEP);
        textIs("8 calls", deep, "6 6 6 6 6 6 6 6 ");
        due("steps()", deep.steps(), 3 * 8 - 1);
        Forth zero = make(4, 0);
        word(zero, DIVIDE, PRINT);
        due("9 and then 21", zero.run(0), ZERO);
        textIs("nothing behind it is executed", zero, "");
    }

    // ---- the promises ----

    private static void aNewObject() {
        says("1: No words, no tokens in hand");
        Forth f = make();
        for (int w = 0; w < 10; w++) {
            due("run(" + w + ")", f.run(w), BAD);
        }
        due("forget()", f.forget(), BAD);
        due("cancel()", f.cancel(), 0);
        due("token(1, 0)", f.token(DUP, 0), 1);
        Forth other = make();
        due("cancel() of another", other.cancel(), 0);
        due("define() of another", other.define(), 0);
        due("run(0) of the first", f.run(0), BAD);
    }

    private static void tokenCountsThoseInHand() {
        says("2: Adds a token to those in hand ... Else answers how many are in hand");
        Forth f = make();
        for (int i = 1; i <= 24; i++) {
            due("token(0, 5)", f.token(NUMBER, 5), i);
        }
        f.cancel();
        due("token behind cancel", f.token(NUMBER, 6), 1);
        f.define();
        due("token behind define", f.token(NUMBER, 7), 1);
        due("define()", f.define(), 1);
        f.run(0);
        f.run(1);
        stackIs("two words", f, 6, 7);
    }

    private static void tokenOps() {
        says("2: op outside 0..33: BAD");
        Forth f = make();
        for (int op = 0; op <= 33; op++) {
            due("token(" + op + ", 0)", f.token(op, 0), 1);
            f.cancel();
        }
        for (int op : of(-1, 34, 35, -34, 127, 128, 255, 256, 257, -256, 65536, 65537, MIN, MAX)) {
            due("token(" + op + ", 0)", f.token(op, 0), BAD);
        }
        due("cancel()", f.cancel(), 0);
    }

    private static void tokenNumbers() {
        says("2: n no number in 0: BAD");
        Forth f = make();
        due("token(0, -32768)", f.token(NUMBER, -32768), 1);
        due("token(0, 32767)", f.token(NUMBER, 32767), 2);
        for (int n : NO_NUMBERS) {
            due("token(0, " + n + ")", f.token(NUMBER, n), BAD);
        }
        due("define()", f.define(), 0);
        due("run(0)", f.run(0), ENDED);
        stackIs("the tokens that were taken", f, -32768, 32767);
    }

    private static void tokenCalls() {
        says("2: not from 0 to 9 in 22: BAD");
        Forth f = make();
        for (int n = 0; n <= 9; n++) {
            due("token(22, " + n + ")", f.token(CALL, n), n + 1);
        }
        for (int n : of(-1, 10, 11, 255, 256, 265, 32767, 65536, 65537, -65536, MIN, MAX)) {
            due("token(22, " + n + ")", f.token(CALL, n), BAD);
        }
        due("cancel()", f.cancel(), 10);
    }

    private static void tokenFullComesFirst() {
        says("2: Tested in this order: 24 are in hand: FULL; ... BAD");
        Forth f = make();
        give(f, times(23, NUMBER));
        due("token(34, 0) with 23 in hand", f.token(34, 0), BAD);
        due("token(0, 32768) with 23 in hand", f.token(NUMBER, 32768), BAD);
        due("token(22, 10) with 23 in hand", f.token(CALL, 10), BAD);
        due("the 24th", f.token(EXIT, 0), 24);
        due("token(1, 0) with 24 in hand", f.token(DUP, 0), FULL);
        due("token(-1, 0) with 24 in hand", f.token(-1, 0), FULL);
        due("token(34, 0) with 24 in hand", f.token(34, 0), FULL);
        due("token(0, 32768) with 24 in hand", f.token(NUMBER, 32768), FULL);
        due("token(22, 10) with 24 in hand", f.token(CALL, 10), FULL);
        due("token(22, -1) with 24 in hand", f.token(CALL, -1), FULL);
        due("cancel()", f.cancel(), 24);
        due("token(1, 0) with none in hand", f.token(DUP, 0), 1);
    }

    private static void refusedTokensLeaveTheHand() {
        says("2: Adds a token (one that is refused is not added)");
        Forth f = make();
        f.token(NUMBER, 1);
        f.token(34, 5);
        f.token(NUMBER, 2);
        f.token(NUMBER, 40000);
        f.token(CALL, 10);
        due("the third that is taken", f.token(NUMBER, 3), 3);
        for (int i = 0; i < 21; i++) {
            f.token(i % 2 == 0 ? NUMBER : DROP, 4 + i);
        }
        f.token(DROP, 0);
        f.token(-1, 0);
        due("define()", f.define(), 0);
        due("run(0)", f.run(0), ENDED);
        due("steps()", f.steps(), 24);
        stackIs("the 24 tokens that were taken", f, 1, 2, 3, 24);
    }

    private static void defineEmptiesTheHand() {
        says("3: Makes the tokens in hand a word; none is in hand then ... Else answers its number");
        Forth f = make();
        due("define() of one", word(f, number(4)), 0);
        due("cancel()", f.cancel(), 0);
        due("define() of 24", word(f, times(24, EXIT)), 1);
        due("cancel()", f.cancel(), 0);
        due("define() of none", f.define(), 2);
        due("cancel()", f.cancel(), 0);
        due("run(2)", f.run(2), ENDED);
        due("steps()", f.steps(), 0);
        due("define() of one again", word(f, number(5), PRINT), 3);
        due("run(0)", f.run(0), ENDED);
        due("run(3)", f.run(3), ENDED);
        stackIs("both words", f, 4);
        textIs("the word made last", f, "5 ");
    }

    private static void defineFullComesFirst() {
        says("3: Tested in this order: 10 words are there: FULL; the parts do not fit: BAD");
        Forth f = make();
        for (int w = 0; w < 9; w++) {
            f.define();
        }
        give(f, IF);
        due("define() of IF with 9 words", f.define(), BAD);
        f.cancel();
        due("define() of the tenth", f.define(), 9);
        due("define() of none with 10 words", f.define(), FULL);
        give(f, IF);
        due("define() of IF with 10 words", f.define(), FULL);
        give(f, THEN);
        due("define() of IF THEN with 10 words", f.define(), FULL);
        due("forget()", f.forget(), 9);
        due("define() of IF THEN with 9 words", f.define(), 9);
    }

    private static void defineFullChangesNothing() {
        says("3: 10 words are there: FULL ... nothing changes");
        Forth f = make();
        for (int w = 0; w < 10; w++) {
            word(f, number(w), PRINT);
        }
        f.push(-9);
        f.setCell(4, 44);
        f.run(9);
        give(f, number(55), NEGATE);
        String before = f.shown();
        due("define()", f.define(), FULL);
        due("what is shown", f.shown(), before);
        for (int w = 0; w < 10; w++) {
            due("run(" + w + ")", f.run(w), ENDED);
            textIs("run(" + w + ")", f, w + " ");
        }
        due("forget()", f.forget(), 9);
        due("define() of the tokens that were left", f.define(), 9);
        due("run(9)", f.run(9), ENDED);
        stackIs("the tokens that were left", f, -9, -55);
        due("cancel()", f.cancel(), 0);
    }

    private static void defineBadChangesNothing() {
        says("3: the parts do not fit: BAD ... nothing changes");
        Forth f = make(3, 4);
        word(f, number(6), PRINT);
        f.setCell(1, 11);
        f.run(0);
        give(f, number(1), IF, number(5));
        String before = f.shown();
        due("define()", f.define(), BAD);
        due("define() again", f.define(), BAD);
        due("what is shown", f.shown(), before);
        due("run(1)", f.run(1), BAD);
        due("run(0)", f.run(0), ENDED);
        due("steps()", f.steps(), 2);
        due("token", f.token(ELSE, 0), 4);
        due("define() of IF ELSE", f.define(), BAD);
        due("token", f.token(THEN, 0), 5);
        due("define() of IF ELSE THEN", f.define(), 1);
        due("run(1)", f.run(1), ENDED);
        stackIs("run(1)", f, 3, 4, 5);
        give(f, call(3), number(8));
        due("define() of a call of a word not there", f.define(), BAD);
        f.define();
        due("cancel()", f.cancel(), 2);
        due("forget()", f.forget(), 1);
    }

    private static void cancelTakesTheHand() {
        says("4: Takes the tokens in hand away; answers how many there were");
        Forth f = make();
        due("cancel() of none", f.cancel(), 0);
        give(f, IF);
        due("cancel() of one", f.cancel(), 1);
        give(f, times(23, IF));
        due("cancel() of 23", f.cancel(), 23);
        give(f, times(24, IF));
        due("cancel() of 24", f.cancel(), 24);
        due("cancel() again", f.cancel(), 0);
        due("define() behind it", f.define(), 0);
        due("run(0)", f.run(0), ENDED);
        due("steps()", f.steps(), 0);
        f.push(5);
        f.setCell(3, 6);
        word(f, number(7), PRINT);
        f.run(1);
        give(f, number(8));
        String before = f.shown();
        due("cancel()", f.cancel(), 1);
        due("what is shown", f.shown(), before);
        due("run(1) behind it", f.run(1), ENDED);
        due("forget() behind it", f.forget(), 1);
    }

    private static void forgetTakesTheLast() {
        says("5: Takes the word that was made last away; answers how many are left");
        Forth f = make();
        for (int w = 0; w < 10; w++) {
            word(f, number(w));
        }
        for (int left = 9; left >= 1; left--) {
            due("forget()", f.forget(), left);
            due("run(" + left + ")", f.run(left), BAD);
            due("run(" + (left - 1) + ")", f.run(left - 1), ENDED);
            due("pick(0)", f.pick(0), left - 1);
        }
        due("forget() of the only one", f.forget(), 0);
        due("run(0)", f.run(0), BAD);
        due("define() of another", word(f, number(50)), 0);
        due("run(0)", f.run(0), ENDED);
        due("pick(0)", f.pick(0), 50);
    }

    private static void forgetOfNone() {
        says("5: BAD if there was none");
        Forth f = make(3);
        due("forget()", f.forget(), BAD);
        give(f, number(4), PRINT);
        due("forget() with tokens in hand", f.forget(), BAD);
        due("define()", f.define(), 0);
        due("run(0)", f.run(0), ENDED);
        textIs("the word", f, "4 ");
        due("forget()", f.forget(), 0);
        due("forget()", f.forget(), BAD);
        due("forget()", f.forget(), BAD);
        due("define()", f.define(), 0);
    }

    private static void forgetLeavesTheRest() {
        says("5: Takes the word that was made last away (and nothing else)");
        Forth f = make(3, -4);
        f.setCell(5, 6);
        word(f, number(1), PRINT);
        word(f, call(0), number(2), PRINT);
        f.run(1);
        give(f, number(9), PRINT, call(0));
        String before = f.shown();
        due("forget()", f.forget(), 1);
        due("what is shown", f.shown(), before);
        due("define() of the tokens in hand", f.define(), 1);
        due("run(1)", f.run(1), ENDED);
        textIs("run(1)", f, "9 1 ");
    }

    private static void pushRefuses() {
        says("6: It is no number, or 12 are on it: refused, answers false");
        Forth f = make();
        for (int x : NO_NUMBERS) {
            due("push(" + x + ") on an empty stack", f.push(x), false);
        }
        due("depth()", f.depth(), 0);
        due("push(-32768)", f.push(-32768), true);
        due("push(32767)", f.push(32767), true);
        for (int k = 3; k <= 12; k++) {
            due("push of number " + k, f.push(k), true);
        }
        due("push(0) on 12", f.push(0), false);
        due("push(32768) on 12", f.push(32768), false);
        due("push(-32769) on 12", f.push(-32769), false);
        stackIs("12 numbers", f, -32768, 32767, 3, 4, 5, 6, 7, 8, 9, 10, 11, 12);
        word(f, DROP);
        f.run(0);
        due("push(32768) on 11", f.push(32768), false);
        due("push(13) on 11", f.push(13), true);
        due("push(14) on 12", f.push(14), false);
        due("pick(0)", f.pick(0), 13);
    }

    private static void runMakesTheTextEmpty() {
        says("7: A run: the text is made empty, and word w is executed");
        Forth f = make();
        word(f, number(123), PRINT);
        word(f);
        word(f, DROP, number(5), PRINT);
        f.run(0);
        textIs("run(0)", f, "123 ");
        f.run(0);
        textIs("run(0) again", f, "123 ");
        due("run(1), an empty word", f.run(1), ENDED);
        textIs("run(1)", f, "");
        f.run(0);
        due("run(2), which ends at once", f.run(2), UNDER);
        textIs("run(2)", f, "");
        f.push(4);
        due("run(2)", f.run(2), ENDED);
        textIs("run(2), shorter than the text before", f, "5 ");
        due("text(2)", f.text(2), 0);
        due("text(3)", f.text(3), 0);
    }

    private static void runOfNone() {
        says("7: There is none: BAD, and nothing happens");
        Forth f = make();
        due("run(0) with no words", f.run(0), BAD);
        word(f, number(7), DUP, PRINT);
        word(f, number(8), number(2), STORE);
        f.run(1);
        f.run(0);
        give(f, number(1), number(2));
        String before = f.shown();
        for (int w : of(-1, 2, 3, 9, 10, 11, 255, 256, 257, 65536, -65536, MIN, MAX)) {
            due("run(" + w + ") with 2 words", f.run(w), BAD);
        }
        due("what is shown", f.shown(), before);
        due("cancel()", f.cancel(), 2);
        due("run(1)", f.run(1), ENDED);
        due("forget()", f.forget(), 1);
        due("run(1) of the word forgotten", f.run(1), BAD);
        due("run(0)", f.run(0), ENDED);
    }

    private static void runThatDoesNotEndWell() {
        says("7: answers how it ended; if that is not ENDED the stack is empty then");
        int[][] words = {{DO, LOOP}, {ROT, ROT, DROP, DROP, DROP, DROP}, {NUMBER, DIVIDE}, times(12, DUP), {call(0)}};
        int[][] before = {{4, 5, 2, 2}, {1, 2, 3}, {1, 2, 3}, {1}, {1, 2}};
        for (int end = TIRED; end <= DEEP; end++) {
            Forth f = make(before[end - 1]);
            word(f, words[end - 1]);
            word(f, number(1), number(0), DIVIDE);
            due("run(0)", f.run(0), end);
            stackIs("behind end " + end, f);
            due("pick(0)", f.pick(0), 0);
            due("push(6)", f.push(6), true);
            stackIs("behind a push", f, 6);
            due("run(1)", f.run(1), ZERO);
            stackIs("behind ZERO", f);
        }
        Forth full = make(upTo(12));
        word(full, DUP);
        due("run(0) on a full stack", full.run(0), TOO_MANY);
        for (int k = 1; k <= 12; k++) {
            due("push(" + k + ") behind it", full.push(k), true);
        }
        due("a thirteenth", full.push(13), false);
    }

    private static void runKeepsWhatWasDone() {
        says("7: word w is executed (up to the token that ends the run)");
        Forth f = make(1);
        word(f, number(-7), PRINT, number(9), number(15), STORE, DROP, DROP, number(8), PRINT);
        due("run(0)", f.run(0), UNDER);
        textIs("run(0)", f, "-7 ");
        due("cell(15)", f.cell(15), 9);
        due("steps()", f.steps(), 6);
        give(f, number(5));
        f.run(0);
        due("tokens in hand outlast a run", f.cancel(), 1);
    }

    private static void stepsOfTheLatestRun() {
        says("8: The number of steps of the latest run; 0 before any");
        Forth f = make();
        due("steps()", f.steps(), 0);
        word(f, number(1), number(2));
        f.define();
        word(f, DROP, DROP, DROP, DROP, DROP);
        due("steps() with words, before any run", f.steps(), 0);
        f.run(9);
        due("steps() behind a run of none", f.steps(), 0);
        f.run(0);
        due("steps() of two tokens", f.steps(), 2);
        f.push(3);
        f.setCell(0, 1);
        f.cancel();
        due("steps() behind other calls", f.steps(), 2);
        f.run(2);
        due("steps() without the token that ended the run", f.steps(), 3);
        f.run(1);
        due("steps() of an empty word", f.steps(), 0);
        f.run(2);
        due("steps() when the first token ended the run", f.steps(), 0);
    }

    private static void depthFromEmptyToFull() {
        says("9: The number of numbers on the stack");
        Forth f = make();
        due("depth()", f.depth(), 0);
        for (int k = 1; k <= 12; k++) {
            f.push(0);
            due("depth()", f.depth(), k);
        }
        f.push(0);
        due("depth() behind a push that was refused", f.depth(), 12);
        word(f, DROP);
        for (int k = 11; k >= 0; k--) {
            f.run(0);
            due("depth()", f.depth(), k);
        }
        f.run(0);
        due("depth() behind a failure", f.depth(), 0);
    }

    private static void pickFromTheTop() {
        says("10: Number k of the stack, counted from the top, from 0; 0 if there is none");
        for (int size = 0; size <= 12; size++) {
            Forth f = make(upTo(size));
            for (int k = 0; k <= 13; k++) {
                due("pick(" + k + ") of " + size, f.pick(k), k < size ? size - k : 0);
            }
            for (int k : of(-1, -12, 255, 256, 65536, MIN, MAX)) {
                due("pick(" + k + ") of " + size, f.pick(k), 0);
            }
            due("depth()", f.depth(), size);
        }
        Forth f = make(7, 8);
        word(f, DROP);
        f.run(0);
        due("pick(1) of a number that was dropped", f.pick(1), 0);
        f.run(0);
        due("pick(0) of an empty stack", f.pick(0), 0);
    }

    private static void cellOutside() {
        says("11: A cell; 0 for i outside 0..15");
        Forth f = make();
        for (int i = 0; i < 16; i++) {
            f.setCell(i, i + 1);
        }
        for (int i = 0; i < 16; i++) {
            due("cell(" + i + ")", f.cell(i), i + 1);
        }
        for (int i : of(-1, 16, 17, 31, -16, -15, 255, 256, 65536, MIN, MAX)) {
            due("cell(" + i + ")", f.cell(i), 0);
        }
    }

    private static void setCellOutside() {
        says("12: i outside 0..15, or x no number: refused, answers false. Else true");
        Forth f = make();
        for (int i = 0; i < 16; i++) {
            due("setCell(" + i + ", n)", f.setCell(i, 100 + i), true);
        }
        for (int i : of(-1, 16, 17, 31, -16, 256, 65536, MIN, MAX)) {
            due("setCell(" + i + ", 5)", f.setCell(i, 5), false);
            due("setCell(" + i + ", 32768)", f.setCell(i, 32768), false);
        }
        for (int x : NO_NUMBERS) {
            due("setCell(0, " + x + ")", f.setCell(0, x), false);
            due("setCell(15, " + x + ")", f.setCell(15, x), false);
        }
        for (int i = 0; i < 16; i++) {
            due("cell(" + i + ") behind calls that were refused", f.cell(i), 100 + i);
        }
        due("setCell(0, -32768)", f.setCell(0, -32768), true);
        due("setCell(15, 32767)", f.setCell(15, 32767), true);
        due("cell(0)", f.cell(0), -32768);
        due("cell(15)", f.cell(15), 32767);
        due("setCell(0, 0)", f.setCell(0, 0), true);
        due("cell(0)", f.cell(0), 0);
    }

    private static void printedFromNone() {
        says("13: The number of characters of the text");
        Forth f = make();
        due("printed() before any run", f.printed(), 0);
        word(f);
        f.run(0);
        due("printed() behind a run without 21", f.printed(), 0);
        word(f, PRINT);
        int[][] rows = {{0, 2}, {9, 2}, {10, 3}, {-1, 3}, {-10, 4}, {99, 3}, {100, 4}, {999, 4}, {1000, 5}, {9999, 5},
            {10000, 6}, {32767, 6}, {-32768, 7}};
        for (int[] row : rows) {
            f.push(row[0]);
            f.run(1);
            due("printed() behind 21 of " + row[0], f.printed(), row[1]);
        }
    }

    private static void textAroundSixty() {
        says("14: Character number k of the text, from 0 ... 0 if there is none, or k is above 59");
        int[][] rows = {{1234, 59}, {12345, 60}, {-12345, 61}};
        for (int[] row : rows) {
            Forth f = make();
            word(f, number(9), number(0), DO, number(20406), PRINT, LOOP, number(row[0]), PRINT);
            due("run(0)", f.run(0), ENDED);
            String text = "20406 ".repeat(9) + row[0] + " ";
            due("printed()", f.printed(), row[1]);
            for (int k = 0; k < 60; k++) {
                due("text(" + k + ") of " + row[1], f.text(k), k < text.length() ? (int) text.charAt(k) : 0);
            }
            for (int k : of(-1, 60, 61, 62, 255, 256, 65536, MIN, MAX)) {
                due("text(" + k + ") of " + row[1], f.text(k), 0);
            }
        }
    }

    private static void textBeforeAny() {
        says("14: 0 if there is none");
        Forth f = make();
        for (int k : of(MIN, -1, 0, 1, 59, 60, MAX)) {
            due("text(" + k + ") before any run", f.text(k), 0);
        }
        word(f, number(-1230), PRINT, number(4567), PRINT, number(89), PRINT);
        f.run(0);
        int[] characters = {45, 49, 50, 51, 48, 32, 52, 53, 54, 55, 32, 56, 57, 32, 0, 0};
        for (int k = 0; k < characters.length; k++) {
            due("text(" + k + ")", f.text(k), characters[k]);
        }
        due("text(-1)", f.text(-1), 0);
    }

    private static void levelOutside() {
        says("15: k outside 0..1: refused, answers false. Else true");
        Forth f = make();
        for (int k : of(-1, 2, 3, 255, 256, 257, 65536, 65537, MIN, MAX)) {
            due("level(" + k + ")", f.level(k), false);
        }
        for (int k : of(0, 0, 1, 1, 0)) {
            due("level(" + k + ")", f.level(k), true);
        }
        due("level(2)", f.level(2), false);
    }

    private static void levelShowsInNoAnswer() {
        says("15: How words that are made from now on are compiled ... It shows in no answer");
        int[] tokens = {BEGIN, DUP, WHILE, DUP, IF, DUP, PRINT, ELSE, EXIT, THEN, number(1), SUBTRACT, REPEAT, BEGIN,
            number(1), ADD, DUP, number(3), EQUAL, UNTIL};
        int[] levels = {1, 0, 0, 1, 1};
        Forth f = make();
        for (int w = 0; w < levels.length; w++) {
            give(f, tokens);
            f.level(levels[w]);
            due("define()", f.define(), w);
        }
        for (int w = 0; w < levels.length; w++) {
            f.level(1 - levels[w]);
            f.push(4);
            due("run(" + w + ")", f.run(w), ENDED);
            due("steps()", f.steps(), 4 * 10 + 2 + 3 * 6);
            textIs("run(" + w + ")", f, "4 3 2 1 ");
            due("pick(0)", f.pick(0), 3);
        }
        f.level(1);
        give(f, number(6), PRINT);
        String before = f.shown();
        f.level(0);
        due("what is shown behind level(0)", f.shown(), before);
        due("cancel()", f.cancel(), 2);
    }

    /** Rows of tokens that a compiler would like to make shorter, where the shorter row would answer otherwise. */
    private static void noTokenIsLeftOut() {
        says("15: How words that are made from now on are compiled ... It shows in no answer");
        int[] ten = upTo(10);
        runs(of(number(1), number(2), ADD), ten, ENDED, 3, join(ten, of(3)));
        runs(of(number(1), number(2), ADD), upTo(11), TOO_MANY, 1);
        runs(of(number(1), DROP), upTo(12), TOO_MANY, 0);
        runs(of(number(0), ADD), upTo(12), TOO_MANY, 0);
        runs(of(number(0), IF, THEN), upTo(12), TOO_MANY, 0);
        runs(of(DUP, DROP), upTo(12), TOO_MANY, 0);
        runs(of(DUP, DROP), upTo(11), ENDED, 2, upTo(11));
        runs(of(OVER, DROP), of(1), UNDER, 0);
        runs(of(number(0), ADD), of(), UNDER, 1);
        runs(of(number(0), MULTIPLY), of(), UNDER, 1);
        runs(of(number(1), DIVIDE), of(), UNDER, 1);
        runs(of(number(4), number(0), REST), of(), ZERO, 2);
        runs(of(IS_ZERO, IS_ZERO), of(5), ENDED, 2, -1);
        for (int op : of(DUP, INVERT, NEGATE, IS_ZERO)) {
            runs(of(op, op), of(), UNDER, 0);
        }
        runs(of(SWAP, SWAP), of(1), UNDER, 0);
        runs(of(SWAP, SWAP), of(1, 2), ENDED, 2, 1, 2);
        runs(of(ROT, ROT, ROT), of(1, 2), UNDER, 0);
        runs(of(number(0), IF, number(5), THEN), of(), ENDED, 2);
        runs(of(number(1), IF, number(5), ELSE, number(6), THEN), of(), ENDED, 4, 5);
        runs(of(BEGIN, number(0), UNTIL), of(), TIRED, 300);
        runs(of(BEGIN, number(1), WHILE, REPEAT), of(), TIRED, 300);
        runs(of(call(0), EXIT), of(), DEEP, 7);
        runs(of(number(1), IF, call(0), THEN), of(), DEEP, 8 * 3 - 1);
        Forth f = make();
        word(f, join(burn(298), of(number(4), PRINT, number(5), PRINT)));
        due("run(0), TIRED between two that print", f.run(0), TIRED);
        textIs("run(0)", f, "4 ");
        word(f, number(1), number(2), STORE, number(3), number(2), STORE, DROP);
        due("run(1)", f.run(1), UNDER);
        due("steps()", f.steps(), 6);
        due("cell(2)", f.cell(2), 3);
    }

    private static void anyNumberElsewhere() {
        says("16: token: n may be any int, and is not looked at, for an op other than 0 and 22");
        Place[] places = places();
        for (int n : of(MIN, MAX, -1, 1, 9, 10, 32767, 32768, -32768, -32769, 65536)) {
            for (Place place : places) {
                Forth f = make(place.before);
                for (int token : place.tokens()) {
                    boolean seen = (token & 255) == NUMBER || (token & 255) == CALL;
                    f.token(token & 255, seen ? token >> 8 : n);
                }
                String what = named(place.tokens()) + " with n = " + n;
                due("define() of " + what, f.define(), 0);
                due("run(0) of " + what, f.run(0), ENDED);
                due("steps() of " + what, f.steps(), place.steps());
                stackIs(what, f, place.after);
            }
        }
    }

    private static void aWordWithoutTokens() {
        says("16: define with no token in hand makes a word without tokens");
        Forth f = make(4, 5);
        for (int w = 0; w < 10; w++) {
            due("define()", f.define(), w);
        }
        due("define() of an eleventh", f.define(), FULL);
        for (int w = 0; w < 10; w++) {
            due("run(" + w + ")", f.run(w), ENDED);
            due("steps()", f.steps(), 0);
        }
        stackIs("words without tokens", f, 4, 5);
        Forth used = make();
        word(used, number(3));
        used.forget();
        due("define() where a word was forgotten", used.define(), 0);
        due("run(0)", used.run(0), ENDED);
        stackIs("the word without tokens", used);
        word(used, call(0), number(1), call(0));
        due("run(1)", used.run(1), ENDED);
        due("steps()", used.steps(), 3);
    }

    private static void badRunLeavesTextAndSteps() {
        says("16: run that answers BAD leaves the text and steps as they were");
        Forth f = make();
        word(f, number(12), PRINT, number(3), DROP);
        f.run(0);
        for (int w : of(-1, 1, 10)) {
            due("run(" + w + ")", f.run(w), BAD);
            due("steps()", f.steps(), 4);
            textIs("run(" + w + ")", f, "12 ");
        }
        f.forget();
        due("run(0) of the word forgotten", f.run(0), BAD);
        due("steps()", f.steps(), 4);
        textIs("run(0)", f, "12 ");
    }

    private static void printedAboveSixty() {
        says("16: printed counts characters above 60 as well");
        Forth f = make();
        word(f, number(10), number(0), DO, number(12345), PRINT, LOOP);
        word(f, call(0), number(1), PRINT);
        int[] long24 = new int[24];
        for (int i = 0; i < 24; i++) {
            long24[i] = i % 2 == 0 ? number(-32768) : PRINT;
        }
        word(f, long24);
        word(f, times(12, call(2)));
        f.run(0);
        due("printed() of exactly 60", f.printed(), 60);
        due("text(59)", f.text(59), 32);
        f.run(1);
        due("printed() of 62", f.printed(), 62);
        due("text(59)", f.text(59), 32);
        due("text(60)", f.text(60), 0);
        due("text(61)", f.text(61), 0);
        due("run(3), 144 numbers in 300 steps", f.run(3), ENDED);
        due("steps()", f.steps(), 300);
        due("printed()", f.printed(), 144 * 7);
        due("text(0)", f.text(0), 45);
        due("text(59)", f.text(59), (int) "-32768 ".charAt(59 % 7));
        due("text(60)", f.text(60), 0);
        due("text(1007)", f.text(1007), 0);
        f.run(0);
        due("printed() of the next run", f.printed(), 60);
    }

    private static void fiveHundredAndTwelveCalls() {
        says("An object is used for at most 512 calls after it has been made");
        Forth f = make();
        for (int w = 0; w < 10; w++) {
            for (int i = 0; i < 24; i++) {
                f.token(i % 2 == 0 ? NUMBER : i == 23 ? EXIT : DROP, 100 * w + i);
            }
            due("define()", f.define(), w);
        }
        for (int w = 0; f.calls < MOST_CALLS - 4; w = (w + 1) % 10) {
            due("run(" + w + ")", f.run(w), ENDED);
            due("pick(0)", f.pick(0), 100 * w + 22);
            if (f.depth() == 12) {
                due("run(0) on a full stack", f.run(0), TOO_MANY);
            }
        }
        while (f.calls < MOST_CALLS - 1) {
            f.cancel();
        }
        due("forget() as the call number 512", f.forget(), 9);
    }

    // ---- all of them ----

    private static void terms() {
        numbers();
        sumsWrap();
        productsWrap();
        otherResultsWrap();
        sixteenCells();
        twelveOnTheStack();
        bothOutlastRuns();
        atFirst();
        tenWords();
        twentyFourTokens();
        divisionIsCut();
        divisionByZero();
        truth();
        bits();
        cellNumbersAreMasked();
        digits();
        callExecutesAWord();
        onlyZeroIsNotTrue();
        goesOnBehind();
        loopsWithLimitAndCount();
        latestLoopOfThisCall();
        exitEndsThisCall();
        behindTheLastToken();
    }

    private static void partsAndEnds() {
        ifWithThen();
        beginWithUntil();
        doWithLoop();
        endsBetween();
        betweenTheSameNeighbours();
        partsOfTheMostTokens();
        iInsideALoop();
        callNamesAWordThatIsThere();
        callOfAWordForgottenMeanwhile();
        stepsOfEachToken();
        tiredAtEachToken();
        threeHundredSteps();
        thenAndBeginBehindTheLastStep();
        underAtEachToken();
        zeroIsNotExecuted();
        overAtEachToken();
        overInsideParts();
        eightCalls();
        callsThatAreOver();
        sixLoops();
        leftLoopsDoNotCount();
        tiredComesFirst();
        underComesBeforeZeroAndDeep();
        theTokenIsNotExecuted();
    }

    private static void promises() {
        aNewObject();
        tokenCountsThoseInHand();
        tokenOps();
        tokenNumbers();
        tokenCalls();
        tokenFullComesFirst();
        refusedTokensLeaveTheHand();
        defineEmptiesTheHand();
        defineFullComesFirst();
        defineFullChangesNothing();
        defineBadChangesNothing();
        cancelTakesTheHand();
        forgetTakesTheLast();
        forgetOfNone();
        forgetLeavesTheRest();
        pushRefuses();
        runMakesTheTextEmpty();
        runOfNone();
        runThatDoesNotEndWell();
        runKeepsWhatWasDone();
        stepsOfTheLatestRun();
        depthFromEmptyToFull();
        pickFromTheTop();
        cellOutside();
        setCellOutside();
        printedFromNone();
        textAroundSixty();
        textBeforeAny();
        levelOutside();
        levelShowsInNoAnswer();
        noTokenIsLeftOut();
        anyNumberElsewhere();
        aWordWithoutTokens();
        badRunLeavesTextAndSteps();
        printedAboveSixty();
        fiveHundredAndTwelveCalls();
    }

    public static void main(String[] args) {
        for (roundLevel = NEW_LEVEL; roundLevel <= 1; roundLevel++) {
            terms();
            partsAndEnds();
            promises();
        }
        System.out.println(wrong == 0 ? "all " + checks + " answers are as due" : wrong + " answers are not as due");
        if (wrong != 0) {
            System.exit(1);
        }
    }
}

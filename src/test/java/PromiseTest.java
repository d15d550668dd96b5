/** Each promise of the document by itself: ordinary inputs, the edges that the document names, and wrong inputs. */
public final class PromiseTest {
    private static final int NUMBER = 0, DUP = 1, DROP = 2, SWAP = 3, OVER = 4, ROT = 5, ADD = 6, SUBTRACT = 7;
    private static final int MULTIPLY = 8, DIVIDE = 9, REST = 10, LESS = 11, EQUAL = 12, IS_ZERO = 13, AND = 14;
    private static final int OR = 15, XOR = 16, INVERT = 17, NEGATE = 18, FETCH = 19, STORE = 20, PRINT = 21;
    private static final int CALL = 22, IF = 23, ELSE = 24, THEN = 25, BEGIN = 26, UNTIL = 27, WHILE = 28;
    private static final int REPEAT = 29, DO = 30, LOOP = 31, I = 32, EXIT = 33;
    private static final int BAD = -100000, FULL = -100001;
    private static final int ENDED = 0, TIRED = 1, UNDER = 2, ZERO = 3, TOO_MANY = 4, DEEP = 5;
    private static final int MIN = Integer.MIN_VALUE, MAX = Integer.MAX_VALUE;

    private static int wrong = 0;
    private static int promise = 0;

    // A token is told as one int: its op, and above it its number.
    private static int number(int n) {
        return NUMBER + (n << 8);
    }

    private static int call(int w) {
        return CALL + (w << 8);
    }

    private static void due(String what, long got, long want) {
        if (got != want) {
            wrong++;
            System.out.println("promise " + promise + ": " + what + " answered " + got + ", due is " + want);
        }
    }

    private static void due(String what, boolean got, boolean want) {
        due(what, got ? 1 : 0, want ? 1 : 0);
    }

    private static void give(ForthCompiler x, int... tokens) {
        for (int token : tokens) {
            x.token(token & 255, token >> 8);
        }
    }

    private static int word(ForthCompiler x, int... tokens) {
        give(x, tokens);
        return x.define();
    }

    private static ForthCompiler with(int... numbers) {
        ForthCompiler x = new ForthCompiler();
        for (int number : numbers) {
            x.push(number);
        }
        return x;
    }

    private static void stackIs(String what, ForthCompiler x, int... bottomFirst) {
        due(what + ", depth()", x.depth(), bottomFirst.length);
        for (int k = 0; k < bottomFirst.length; k++) {
            due(what + ", pick(" + k + ")", x.pick(k), bottomFirst[bottomFirst.length - 1 - k]);
        }
    }

    private static void textIs(String what, ForthCompiler x, String text) {
        due(what + ", printed()", x.printed(), text.length());
        for (int k = 0; k < text.length() && k < 60; k++) {
            due(what + ", text(" + k + ")", x.text(k), text.charAt(k));
        }
        due(what + ", text behind the last", x.text(text.length()), 0);
    }

    /** One op on a stack, at both levels. */
    private static void op(int op, int[] before, int end, int... after) {
        for (int level = 0; level <= 1; level++) {
            ForthCompiler x = with(before);
            x.level(level);
            word(x, op);
            String what = "op " + (op & 255) + " at level " + level;
            due(what, x.run(0), end);
            due(what + ", steps()", x.steps(), end == ENDED ? 1 : 0);
            stackIs(what, x, after);
        }
    }

    private static int[] of(int... numbers) {
        return numbers;
    }

    private static void newObject() {
        ForthCompiler x = new ForthCompiler();
        due("forget()", x.forget(), BAD);
        due("cancel()", x.cancel(), 0);
        due("run(0)", x.run(0), BAD);
        due("depth()", x.depth(), 0);
        due("steps()", x.steps(), 0);
        due("printed()", x.printed(), 0);
        due("text(0)", x.text(0), 0);
        for (int i = 0; i < 16; i++) {
            due("cell(" + i + ")", x.cell(i), 0);
        }
        due("define()", x.define(), 0);
    }

    private static void token() {
        ForthCompiler x = new ForthCompiler();
        int[][] bad = {{-1, 0}, {34, 0}, {MIN, 0}, {MAX, 0}, {256, 0}, {NUMBER, 32768}, {NUMBER, -32769},
            {NUMBER, MIN}, {NUMBER, MAX}, {NUMBER, 65536}, {CALL, -1}, {CALL, 10}, {CALL, 65536}, {CALL, MIN}};
        for (int[] t : bad) {
            due("token(" + t[0] + ", " + t[1] + ")", x.token(t[0], t[1]), BAD);
        }
        int[][] good = {{NUMBER, 32767}, {NUMBER, -32768}, {NUMBER, 0}, {CALL, 0}, {CALL, 9}, {DUP, 0}, {EXIT, 0},
            {IF, 0}, {I, 0}};
        for (int i = 0; i < good.length; i++) {
            due("token(" + good[i][0] + ", " + good[i][1] + ")", x.token(good[i][0], good[i][1]), i + 1);
        }
        for (int i = good.length; i < 24; i++) {
            due("token(1, 0)", x.token(DUP, 0), i + 1);
        }
        due("token(1, 0) with 24 in hand", x.token(DUP, 0), FULL);
        due("token(-1, 0) with 24 in hand", x.token(-1, 0), FULL);
        due("token(0, 32768) with 24 in hand", x.token(NUMBER, 32768), FULL);
        due("cancel()", x.cancel(), 24);
    }

    private static void fits(boolean fit, int... tokens) {
        for (int level = 0; level <= 1; level++) {
            ForthCompiler x = new ForthCompiler();
            x.level(level);
            StringBuilder what = new StringBuilder("define() of");
            for (int token : tokens) {
                what.append(' ').append(token & 255);
            }
            due(what.toString(), word(x, tokens), fit ? 0 : BAD);
            due(what + ", then cancel()", x.cancel(), fit ? 0 : tokens.length);
            due(what + ", then forget()", x.forget(), fit ? 0 : BAD);
        }
    }

    private static void define() {
        fits(true, IF, THEN);
        fits(true, IF, ELSE, THEN);
        fits(true, BEGIN, UNTIL);
        fits(true, BEGIN, WHILE, REPEAT);
        fits(true, DO, LOOP);
        fits(true, DO, I, LOOP);
        fits(true, DO, IF, BEGIN, I, WHILE, I, REPEAT, ELSE, I, THEN, LOOP);
        fits(true, IF, BEGIN, UNTIL, ELSE, DO, LOOP, THEN);
        fits(true, BEGIN, IF, THEN, WHILE, IF, ELSE, THEN, REPEAT);
        fits(true, EXIT);
        fits(true, call(0));
        fits(true, IF, IF, IF, IF, IF, IF, IF, IF, IF, IF, IF, IF,
            THEN, THEN, THEN, THEN, THEN, THEN, THEN, THEN, THEN, THEN, THEN, THEN);
        int[] lone = {IF, ELSE, THEN, BEGIN, UNTIL, WHILE, REPEAT, DO, LOOP, I};
        for (int token : lone) {
            fits(false, token);
        }
        int[] all = new int[24];
        java.util.Arrays.fill(all, IF);
        fits(false, all);
        fits(false, THEN, IF);
        fits(false, IF, ELSE);
        fits(false, ELSE, THEN);
        fits(false, IF, ELSE, ELSE, THEN);
        fits(false, IF, THEN, THEN);
        fits(false, IF, UNTIL);
        fits(false, BEGIN, THEN);
        fits(false, BEGIN, ELSE, THEN);
        fits(false, BEGIN, REPEAT);
        fits(false, BEGIN, WHILE);
        fits(false, WHILE, REPEAT);
        fits(false, BEGIN, WHILE, UNTIL);
        fits(false, BEGIN, WHILE, WHILE, REPEAT);
        fits(false, BEGIN, WHILE, REPEAT, REPEAT);
        fits(false, BEGIN, UNTIL, UNTIL);
        fits(false, BEGIN, LOOP);
        fits(false, DO, UNTIL);
        fits(false, DO, WHILE, REPEAT);
        fits(false, DO, LOOP, LOOP);
        fits(false, DO, LOOP, I);
        fits(false, I, DO, LOOP);
        fits(false, IF, I, THEN, DO, LOOP);
        fits(false, IF, BEGIN, THEN, UNTIL);
        fits(false, IF, DO, ELSE, LOOP, THEN);
        fits(false, IF, BEGIN, ELSE, UNTIL, THEN);
        fits(false, BEGIN, IF, WHILE, THEN, REPEAT);
        fits(false, BEGIN, DO, WHILE, LOOP, REPEAT);
        fits(false, BEGIN, IF, UNTIL, THEN);
        fits(false, DO, BEGIN, LOOP, UNTIL);
        fits(false, call(1));
        fits(false, call(9));

        ForthCompiler x = new ForthCompiler();
        due("define() of a call of a word not there", word(x, call(2)), BAD);
        x.cancel();
        due("define() of the first", word(x, number(7)), 0);
        due("define() of a call of the first", word(x, call(0)), 1);
        give(x, call(3));
        due("define() of a call of the word behind the next", x.define(), BAD);
        x.cancel();
        for (int w = 2; w < 10; w++) {
            due("define() of word " + w, word(x, call(w - 1)), w);
            due("tokens in hand behind it", x.cancel(), 0);
        }
        give(x, DUP);
        due("define() with 10 words", x.define(), FULL);
        give(x, THEN);
        due("define() with 10 words and parts that do not fit", x.define(), FULL);
        due("tokens in hand behind it", x.cancel(), 2);
        due("run(7)", x.run(7), ENDED);
        stackIs("run(7)", x, 7);
        defineBehindBad();
        defineTheMost();
    }

    private static void defineBehindBad() {
        ForthCompiler x = new ForthCompiler();
        due("define() of IF", word(x, IF), BAD);
        due("define() of IF THEN, its THEN added", word(x, THEN), 0);
        due("define() of DO", word(x, DO), BAD);
        x.cancel();
        due("define() of I behind a DO taken away", word(x, I), BAD);
        x.cancel();
        due("define() of a word without parts", word(x, DUP), 1);
    }

    private static void defineTheMost() {
        ForthCompiler x = new ForthCompiler();
        x.level(0);
        int[] tokens = new int[24];
        for (int w = 0; w < 10; w++) {
            for (int i = 0; i < 24; i += 2) {
                tokens[i] = number(w * 24 + i);
                tokens[i + 1] = i < 22 ? DROP : EXIT;
            }
            due("define() of 24 tokens", word(x, tokens), w);
        }
        for (int w = 0; w < 10; w++) {
            due("run(" + w + ") of 24 tokens", x.run(w), ENDED);
            due("steps() of it", x.steps(), 24);
            due("pick(0) behind it", x.pick(0), w * 24 + 22);
        }
    }

    private static void cancel() {
        ForthCompiler x = new ForthCompiler();
        due("cancel() of none", x.cancel(), 0);
        give(x, IF, DUP, number(3));
        due("cancel() of 3", x.cancel(), 3);
        due("cancel() again", x.cancel(), 0);
        due("token behind it", x.token(NUMBER, 4), 1);
        due("define() behind it", x.define(), 0);
        x.run(0);
        stackIs("run(0)", x, 4);
        due("cancel() leaves words", x.cancel(), 0);
        due("run(0) again", x.run(0), ENDED);
    }

    private static void forget() {
        ForthCompiler x = new ForthCompiler();
        due("forget() of none", x.forget(), BAD);
        word(x, number(1));
        word(x, number(2));
        word(x, number(3), number(4), PRINT);
        give(x, call(2));
        due("forget()", x.forget(), 2);
        due("run(2) of a forgotten word", x.run(2), BAD);
        due("define() of a call of itself", x.define(), 2);
        due("run(2)", x.run(2), DEEP);
        due("forget()", x.forget(), 2);
        due("forget()", x.forget(), 1);
        give(x, call(2));
        due("define() of a call of a forgotten word", x.define(), BAD);
        due("cancel() of the token that was left", x.cancel(), 1);
        due("define() of an empty word", x.define(), 1);
        due("run(1) does not find the old tokens", x.run(1), ENDED);
        stackIs("run(1)", x);
        due("run(0)", x.run(0), ENDED);
        stackIs("run(0)", x, 1);
        due("forget()", x.forget(), 1);
        due("forget()", x.forget(), 0);
        due("forget() of none", x.forget(), BAD);
        due("run(0)", x.run(0), BAD);
    }

    private static void push() {
        ForthCompiler x = new ForthCompiler();
        int[] bad = {32768, -32769, 65536, MIN, MAX};
        for (int number : bad) {
            due("push(" + number + ")", x.push(number), false);
        }
        due("depth()", x.depth(), 0);
        due("push(32767)", x.push(32767), true);
        due("push(-32768)", x.push(-32768), true);
        stackIs("push", x, 32767, -32768);
        for (int k = 2; k < 12; k++) {
            due("push(" + k + ")", x.push(k), true);
        }
        due("push(12) with 12 there", x.push(12), false);
        due("push(32768) with 12 there", x.push(32768), false);
        stackIs("push", x, 32767, -32768, 2, 3, 4, 5, 6, 7, 8, 9, 10, 11);
    }

    private static void stackOps() {
        int[] full = of(1, 2, 3, 4, 5, 6, 7, 8, 9, 10, 11, 12);
        int[] eleven = of(1, 2, 3, 4, 5, 6, 7, 8, 9, 10, 11);
        op(number(-32768), of(), ENDED, -32768);
        op(number(32767), of(5), ENDED, 5, 32767);
        op(number(4), eleven, ENDED, 1, 2, 3, 4, 5, 6, 7, 8, 9, 10, 11, 4);
        op(number(4), full, TOO_MANY);
        op(DUP, of(7, 8), ENDED, 7, 8, 8);
        op(DUP, eleven, ENDED, 1, 2, 3, 4, 5, 6, 7, 8, 9, 10, 11, 11);
        op(DUP, full, TOO_MANY);
        op(DROP, of(7, 8), ENDED, 7);
        op(SWAP, of(6, 7, 8), ENDED, 6, 8, 7);
        op(SWAP, full, ENDED, 1, 2, 3, 4, 5, 6, 7, 8, 9, 10, 12, 11);
        op(OVER, of(6, 7, 8), ENDED, 6, 7, 8, 7);
        op(OVER, eleven, ENDED, 1, 2, 3, 4, 5, 6, 7, 8, 9, 10, 11, 10);
        op(OVER, full, TOO_MANY);
        op(ROT, of(5, 6, 7, 8), ENDED, 5, 7, 8, 6);
        op(ROT, full, ENDED, 1, 2, 3, 4, 5, 6, 7, 8, 9, 11, 12, 10);
        op(PRINT, of(5, 6), ENDED, 5);
        op(EXIT, of(5), ENDED, 5);
        int[] takesTwo = {SWAP, OVER, ADD, SUBTRACT, MULTIPLY, DIVIDE, REST, LESS, EQUAL, AND, OR, XOR, STORE};
        for (int op : takesTwo) {
            op(op, of(), UNDER);
            op(op, of(0), UNDER);
        }
        int[] takesOne = {DUP, DROP, IS_ZERO, INVERT, NEGATE, FETCH, PRINT};
        for (int op : takesOne) {
            op(op, of(), UNDER);
        }
        op(ROT, of(1, 2), UNDER);
    }

    private static void arithmetic() {
        op(ADD, of(9, 30000, 10000), ENDED, 9, -25536);
        op(ADD, of(-32768, -1), ENDED, 32767);
        op(SUBTRACT, of(9, 3, 5), ENDED, 9, -2);
        op(SUBTRACT, of(-32768, 1), ENDED, 32767);
        op(MULTIPLY, of(9, -7, 6), ENDED, 9, -42);
        op(MULTIPLY, of(-32768, -32768), ENDED, 0);
        op(MULTIPLY, of(32767, 32767), ENDED, 1);
        op(MULTIPLY, of(300, 300), ENDED, 24464);
        op(DIVIDE, of(9, 17, 5), ENDED, 9, 3);
        op(DIVIDE, of(-17, 5), ENDED, -3);
        op(DIVIDE, of(17, -5), ENDED, -3);
        op(DIVIDE, of(-17, -5), ENDED, 3);
        op(DIVIDE, of(-32768, -1), ENDED, -32768);
        op(DIVIDE, of(0, 5), ENDED, 0);
        op(DIVIDE, of(3, 0), ZERO);
        op(REST, of(9, 17, 5), ENDED, 9, 2);
        op(REST, of(-17, 5), ENDED, -2);
        op(REST, of(17, -5), ENDED, 2);
        op(REST, of(-17, -5), ENDED, -2);
        op(REST, of(-32768, -1), ENDED, 0);
        op(REST, of(3, 0), ZERO);
        op(REST, of(0, 0), ZERO);
        op(LESS, of(9, 3, 5), ENDED, 9, -1);
        op(LESS, of(5, 5), ENDED, 0);
        op(LESS, of(5, 3), ENDED, 0);
        op(LESS, of(-32768, 32767), ENDED, -1);
        op(LESS, of(32767, -32768), ENDED, 0);
        op(EQUAL, of(9, 3, 3), ENDED, 9, -1);
        op(EQUAL, of(3, 4), ENDED, 0);
        op(IS_ZERO, of(9, 0), ENDED, 9, -1);
        op(IS_ZERO, of(-1), ENDED, 0);
        op(AND, of(9, 12, 10), ENDED, 9, 8);
        op(AND, of(-1, -32768), ENDED, -32768);
        op(OR, of(9, 12, 10), ENDED, 9, 14);
        op(XOR, of(9, 12, 10), ENDED, 9, 6);
        op(XOR, of(-1, 32767), ENDED, -32768);
        op(INVERT, of(9, 0), ENDED, 9, -1);
        op(INVERT, of(32767), ENDED, -32768);
        op(NEGATE, of(9, 5), ENDED, 9, -5);
        op(NEGATE, of(-32768), ENDED, -32768);
    }

    private static void fetchAndStore() {
        ForthCompiler x = with(77, 16 + 3);
        word(x, STORE);
        word(x, FETCH);
        due("run(STORE)", x.run(0), ENDED);
        stackIs("STORE", x);
        due("cell(3)", x.cell(3), 77);
        x.push(-8);
        x.push(-1);
        due("run(STORE)", x.run(0), ENDED);
        due("cell(15)", x.cell(15), -8);
        x.push(-32768 + 15);
        due("run(FETCH)", x.run(1), ENDED);
        stackIs("FETCH", x, -8);
        x.push(-13);
        due("run(FETCH)", x.run(1), ENDED);
        stackIs("FETCH", x, -8, 77);
    }

    /** A word on a stack, at both levels: its end, its steps and what is on the stack then. */
    private static void runs(String what, int[] tokens, int[] before, int end, int steps, int... after) {
        for (int level = 0; level <= 1; level++) {
            ForthCompiler x = with(before);
            x.level(level);
            due(what + ", define()", word(x, tokens), 0);
            due(what + ", run(0) at level " + level, x.run(0), end);
            due(what + ", steps() at level " + level, x.steps(), steps);
            stackIs(what + " at level " + level, x, after);
        }
    }

    private static void parts() {
        int[] choice = {IF, number(1), ELSE, number(2), THEN, number(3)};
        runs("IF ELSE of truth", choice, of(-1), ENDED, 4, 1, 3);
        runs("IF ELSE of 5", choice, of(5), ENDED, 4, 1, 3);
        runs("IF ELSE of 0", choice, of(0), ENDED, 3, 2, 3);
        runs("IF ELSE of none", choice, of(), UNDER, 0);
        int[] maybe = {IF, number(1), THEN, number(3)};
        runs("IF of 1", maybe, of(1), ENDED, 3, 1, 3);
        runs("IF of 0", maybe, of(0), ENDED, 2, 3);
        int[] nested = {IF, IF, number(1), ELSE, number(2), THEN, ELSE, IF, number(3), THEN, THEN};
        runs("nested IF 1 1", nested, of(1, 1), ENDED, 5, 1);
        runs("nested IF 0 1", nested, of(0, 1), ENDED, 4, 2);
        runs("nested IF 1 0", nested, of(1, 0), ENDED, 3, 3);
        runs("nested IF 0 0", nested, of(0, 0), ENDED, 2);
        int[] until = {BEGIN, number(1), SUBTRACT, DUP, number(1), LESS, UNTIL};
        runs("UNTIL", until, of(3), ENDED, 18, 0);
        runs("UNTIL once", until, of(-4), ENDED, 6, -5);
        runs("UNTIL of none", of(BEGIN, UNTIL), of(), UNDER, 0);
        runs("UNTIL leaves 0s", of(BEGIN, UNTIL), of(4, 2, 0, 0), ENDED, 3, 4);
        int[] whiles = {BEGIN, DUP, WHILE, number(1), SUBTRACT, REPEAT, number(9)};
        runs("WHILE", whiles, of(3), ENDED, 18, 0, 9);
        runs("WHILE never", whiles, of(0), ENDED, 3, 0, 9);
        int[] later = {DUP, IF, number(5), BEGIN, DUP, WHILE, number(1), SUBTRACT, REPEAT, THEN};
        runs("WHILE inside IF", later, of(1), ENDED, 30, 1, 0);
        runs("WHILE of none", of(BEGIN, WHILE, REPEAT), of(), UNDER, 0);
        int[] counting = {DO, I, LOOP};
        runs("DO to 3", counting, of(3, 0), ENDED, 7, 0, 1, 2);
        runs("DO once", counting, of(-5, -6), ENDED, 3, -6);
        runs("DO around the end", counting, of(-32767, 32767), ENDED, 5, 32767, -32768);
        runs("DO with the limit at the count", of(DO, LOOP), of(4, 4), TIRED, 300);
        runs("DO of one", counting, of(1), UNDER, 0);
        runs("I on a full stack", counting, of(20, 0), TOO_MANY, 25);
        int[] inner = {number(2), number(0), DO, number(12), number(10), DO, I, LOOP, I, LOOP};
        runs("DO in DO", inner, of(), ENDED, 21, 10, 11, 0, 10, 11, 1);
        runs("EXIT", of(number(1), EXIT, number(2)), of(), ENDED, 2, 1);
        runs("EXIT of two loops", of(number(9), DUP, DO, number(9), DUP, DO, I, EXIT, LOOP, LOOP), of(), ENDED, 8, 9);
        runs("THEN behind step 300 is none", of(DO, LOOP, IF, THEN), of(0, 298, 0), ENDED, 300);
    }

    private static void limits() {
        runs("300 steps", of(DO, LOOP), of(299, 0), ENDED, 300);
        runs("301 steps", of(DO, LOOP, DUP), of(7, 299, 0), TIRED, 300);
        runs("300 steps and THEN", of(DO, LOOP, IF, THEN), of(1, 298, 0), ENDED, 300);
        runs("TIRED before UNDER", of(DO, LOOP, DROP), of(299, 0), TIRED, 300);
        runs("UNDER just before TIRED", of(DO, LOOP, DROP), of(298, 0), UNDER, 299);
        runs("TIRED before ZERO", of(DO, LOOP, DIVIDE), of(1, 0, 299, 0), TIRED, 300);
        runs("UNDER before ZERO", of(REST), of(0), UNDER, 0);
        runs("8 calls", of(DUP, IF, number(1), SUBTRACT, call(0), THEN), of(7), ENDED, 37, 0);
        runs("9 calls", of(DUP, IF, number(1), SUBTRACT, call(0), THEN), of(8), DEEP, 39);
        runs("calls that are over do not count", of(DUP, IF, number(1), SUBTRACT, call(0), call(0), THEN), of(7),
            ENDED, 58, 0);
        int[] six = {DO, DO, DO, DO, DO, DO, LOOP, LOOP, LOOP, LOOP, LOOP, LOOP};
        runs("6 loops", six, of(1, 0, 1, 0, 1, 0, 1, 0, 1, 0, 1, 0), ENDED, 12);
        int[] seven = {DO, DO, DO, DO, DO, DO, number(1), DUP, DO, LOOP, LOOP, LOOP, LOOP, LOOP, LOOP, LOOP};
        runs("7 loops", seven, of(1, 0, 1, 0, 1, 0, 1, 0, 1, 0, 1, 0), DEEP, 8);
        int[] short7 = {DO, DO, DO, DO, DO, DO, number(1), DO, LOOP, LOOP, LOOP, LOOP, LOOP, LOOP, LOOP};
        runs("UNDER before DEEP", short7, of(1, 0, 1, 0, 1, 0, 1, 0, 1, 0, 1, 0), UNDER, 7);
    }

    private static void callsAndLoops() {
        ForthCompiler x = new ForthCompiler();
        word(x, number(5), number(3), DO, EXIT, LOOP);
        word(x, number(8), number(0), DO, call(0), I, PRINT, LOOP);
        due("run(1): EXIT ends the loops of its call alone", x.run(1), ENDED);
        textIs("run(1)", x, "0 1 2 3 4 5 6 7 ");
        due("steps() of run(1)", x.steps(), 3 + 8 * 8);
        word(x, DO, call(0), LOOP);
        word(x, number(1), number(0), DO, number(1), number(0), DO, number(1), number(0), DO, number(1), number(0), DO,
            number(1), number(0), call(2), LOOP, LOOP, LOOP, LOOP);
        due("run(3): 6 loops in 3 calls", x.run(3), ENDED);
        word(x, number(1), number(0), DO, call(3), LOOP);
        due("run(4): 7 loops in 4 calls", x.run(4), DEEP);
        due("steps() of run(4)", x.steps(), 4 + 12 + 3 + 2 + 2);
        due("run(3) behind it begins without loops", x.run(3), ENDED);
    }

    private static void run() {
        ForthCompiler x = new ForthCompiler();
        word(x, PRINT, number(6), number(2), STORE, DROP);
        due("run(-1)", x.run(-1), BAD);
        due("run(1)", x.run(1), BAD);
        due("run(10)", x.run(10), BAD);
        due("run(MIN)", x.run(MIN), BAD);
        due("run(MAX)", x.run(MAX), BAD);
        x.push(4);
        x.push(-12);
        due("run(0)", x.run(0), ENDED);
        stackIs("run(0)", x);
        textIs("run(0)", x, "-12 ");
        due("cell(2)", x.cell(2), 6);
        x.setCell(2, 1);
        x.push(3);
        due("run(0) that fails", x.run(0), UNDER);
        textIs("run(0) that fails", x, "3 ");
        due("cell(2) outlasts the failure", x.cell(2), 6);
        x.push(1);
        x.push(2);
        x.push(3);
        due("run(0) again", x.run(0), ENDED);
        stackIs("run(0) again", x, 1);
        word(x, number(1), number(0), DIVIDE);
        due("run(1)", x.run(1), ZERO);
        stackIs("run(1)", x);
        textIs("run(1) makes the text empty", x, "");
        stackOps();
        arithmetic();
        fetchAndStore();
        parts();
        limits();
        callsAndLoops();
    }

    private static void steps() {
        ForthCompiler x = new ForthCompiler();
        due("steps() before any run", x.steps(), 0);
        word(x, number(1), IF, DUP, THEN);
        word(x);
        x.push(5);
        due("steps() before any run", x.steps(), 0);
        x.run(0);
        due("steps() without THEN", x.steps(), 3);
        x.run(1);
        due("steps() of an empty word", x.steps(), 0);
        word(x, call(0), call(1));
        x.run(2);
        due("steps() of calls", x.steps(), 5);
        word(x, number(1), DROP, DROP, DROP, DROP, DROP, DROP, DROP, DROP, DROP, DROP);
        x.run(3);
        due("steps() without the token that ended the run", x.steps(), 5);
    }

    private static void depthAndPick() {
        promise = 9;
        ForthCompiler x = new ForthCompiler();
        for (int k = 0; k < 12; k++) {
            due("depth()", x.depth(), k);
            x.push(100 + k);
        }
        due("depth()", x.depth(), 12);
        word(x, ADD, SWAP);
        x.run(0);
        due("depth() outlasts a run", x.depth(), 11);
        promise = 10;
        due("pick(0)", x.pick(0), 109);
        due("pick(1)", x.pick(1), 221);
        due("pick(2)", x.pick(2), 108);
        due("pick(10)", x.pick(10), 100);
        int[] none = {-1, 11, 12, 13, 100, MIN, MAX};
        for (int k : none) {
            due("pick(" + k + ")", x.pick(k), 0);
        }
        x.run(0);
        x.run(0);
        due("pick(9) of a stack of 9", x.pick(9), 0);
    }

    private static void cells() {
        promise = 12;
        ForthCompiler x = new ForthCompiler();
        for (int i = 0; i < 16; i++) {
            due("setCell(" + i + ", n)", x.setCell(i, i * 1000 - 3), true);
        }
        due("setCell(0, -32768)", x.setCell(0, -32768), true);
        due("setCell(15, 32767)", x.setCell(15, 32767), true);
        int[][] bad = {{-1, 5}, {16, 5}, {MIN, 5}, {MAX, 5}, {1, 32768}, {1, -32769}, {1, MIN}, {1, MAX}, {1, 65536}};
        for (int[] b : bad) {
            due("setCell(" + b[0] + ", " + b[1] + ")", x.setCell(b[0], b[1]), false);
        }
        promise = 11;
        due("cell(0)", x.cell(0), -32768);
        due("cell(15)", x.cell(15), 32767);
        for (int i = 1; i < 15; i++) {
            due("cell(" + i + ")", x.cell(i), i * 1000 - 3);
        }
        int[] none = {-1, 16, 17, 31, MIN, MAX};
        for (int i : none) {
            due("cell(" + i + ")", x.cell(i), 0);
        }
    }

    private static void printedAndText() {
        int[] numbers = {0, 1, -1, 9, 10, -10, 99, 100, 101, 999, 1000, -1001, 9999, 10000, 10010, -10000, 32767, -32768};
        for (int number : numbers) {
            ForthCompiler x = with(number);
            word(x, PRINT);
            promise = 13;
            due("run(0)", x.run(0), ENDED);
            textIs("PRINT of " + number, x, number + " ");
        }
        ForthCompiler x = new ForthCompiler();
        word(x, number(20), number(0), DO, number(-32768), PRINT, LOOP);
        x.run(0);
        due("printed() above 60", x.printed(), 140);
        promise = 14;
        String text = "-32768 ".repeat(20);
        for (int k = 0; k < 60; k++) {
            due("text(" + k + ")", x.text(k), text.charAt(k));
        }
        int[] none = {-1, 60, 61, 139, 140, MIN, MAX};
        for (int k : none) {
            due("text(" + k + ")", x.text(k), 0);
        }
        word(x, number(5), PRINT);
        x.run(1);
        textIs("the next run", x, "5 ");
        due("text(7) of the run before", x.text(7), 0);
    }

    private static void level() {
        ForthCompiler x = new ForthCompiler();
        due("level(-1)", x.level(-1), false);
        due("level(2)", x.level(2), false);
        due("level(MIN)", x.level(MIN), false);
        due("level(MAX)", x.level(MAX), false);
        due("level(0)", x.level(0), true);
        due("level(0) again", x.level(0), true);
        due("level(1)", x.level(1), true);
        due("level(1) again", x.level(1), true);
        int[] whole = {IF, BEGIN, DUP, WHILE, number(1), SUBTRACT, REPEAT, ELSE, BEGIN, number(1), ADD, DUP, number(4),
            EQUAL, UNTIL, THEN, PRINT};
        for (int level = 0; level <= 1; level++) {
            x.level(level);
            word(x, whole);
            x.level(1 - level);
            word(x, call(2 * level));
            for (int w = 2 * level; w <= 2 * level + 1; w++) {
                x.push(3);
                x.push(1);
                due("run(" + w + ")", x.run(w), ENDED);
                due("steps() of it", x.steps(), 20 + w % 2);
                textIs("run(" + w + ")", x, "0 ");
                x.push(2);
                x.push(0);
                due("run(" + w + ")", x.run(w), ENDED);
                due("steps() of it", x.steps(), 14 + w % 2);
                textIs("run(" + w + ")", x, "4 ");
            }
        }
    }

    private static void order() {
        ForthCompiler x = new ForthCompiler();
        int[] any = {MIN, MAX, -1, 10, 32768, -32769};
        for (int op = 1; op <= 33; op++) {
            for (int n : any) {
                if (op != CALL) {
                    due("token(" + op + ", " + n + ")", x.token(op, n), 1);
                    x.cancel();
                }
            }
        }
        x.token(IF, MAX);
        x.token(DUP, MIN);
        x.token(THEN, -1);
        x.token(EXIT, 70000);
        due("define()", x.define(), 0);
        x.push(3);
        x.push(1);
        due("run(0)", x.run(0), ENDED);
        stackIs("run(0)", x, 3, 3);
        due("define() of no token", x.define(), 1);
        due("run(1)", x.run(1), ENDED);
        due("steps()", x.steps(), 0);
        stackIs("run(1)", x, 3, 3);
        word(x, PRINT, PRINT);
        x.run(2);
        due("run(3)", x.run(3), BAD);
        due("steps() behind BAD", x.steps(), 2);
        textIs("text behind BAD", x, "3 3 ");
        x.push(8);
        due("run(-1)", x.run(-1), BAD);
        stackIs("run(-1)", x, 8);
        word(x, number(11), number(0), DO, number(12345), PRINT, LOOP);
        x.run(3);
        due("printed() above 60", x.printed(), 66);
        due("text(59)", x.text(59), ' ');
        due("text(60)", x.text(60), 0);
    }

    public static void main(String[] args) {
        promise = 1;
        newObject();
        promise = 2;
        token();
        promise = 3;
        define();
        promise = 4;
        cancel();
        promise = 5;
        forget();
        promise = 6;
        push();
        promise = 7;
        run();
        promise = 8;
        steps();
        depthAndPick();
        cells();
        printedAndText();
        promise = 15;
        level();
        promise = 16;
        order();
        System.out.println(wrong == 0 ? "all promises hold" : wrong + " answers are not as due");
        if (wrong != 0) {
            System.exit(1);
        }
    }
}

/**
 * A small Forth, compiled for an eight-bit machine.
 *
 * The tokens in hand are compiled by define into instructions: an op in one byte and an argument, which is a number,
 * a word, or, for an op that goes on elsewhere, the instruction where it goes on. run executes these instructions.
 */
public final class ForthCompiler {
    public static final int BAD = -100000;
    public static final int FULL = -100001;
    public static final int ENDED = 0;
    public static final int TIRED = 1;
    public static final int UNDER = 2;
    public static final int ZERO = 3;
    public static final int OVER = 4;
    public static final int DEEP = 5;

    private static final int OP_NUMBER = 0;
    private static final int OP_DUP = 1;
    private static final int OP_DROP = 2;
    private static final int OP_SWAP = 3;
    private static final int OP_OVER = 4;
    private static final int OP_ROT = 5;
    private static final int OP_ADD = 6;
    private static final int OP_SUBTRACT = 7;
    private static final int OP_MULTIPLY = 8;
    private static final int OP_DIVIDE = 9;
    private static final int OP_REST = 10;
    private static final int OP_LESS = 11;
    private static final int OP_EQUAL = 12;
    private static final int OP_IS_ZERO = 13;
    private static final int OP_AND = 14;
    private static final int OP_OR = 15;
    private static final int OP_XOR = 16;
    private static final int OP_INVERT = 17;
    private static final int OP_NEGATE = 18;
    private static final int OP_FETCH = 19;
    private static final int OP_STORE = 20;
    private static final int OP_PRINT = 21;
    private static final int OP_CALL = 22;
    private static final int OP_IF = 23;
    private static final int OP_ELSE = 24;
    private static final int OP_THEN = 25;
    private static final int OP_BEGIN = 26;
    private static final int OP_UNTIL = 27;
    private static final int OP_WHILE = 28;
    private static final int OP_REPEAT = 29;
    private static final int OP_DO = 30;
    private static final int OP_LOOP = 31;
    private static final int OP_I = 32;
    private static final int OP_EXIT = 33;

    private static final int LEAST_NUMBER = -32768;
    private static final int GREATEST_NUMBER = 32767;
    private static final int TRUTH = -1;

    private static final int MOST_TOKENS = 24;
    private static final int MOST_PLACES = 25;
    private static final int MOST_WORDS = 10;
    private static final int MOST_INSTRUCTIONS = 240;
    private static final int MOST_NUMBERS = 12;
    private static final int CELL_COUNT = 16;
    private static final int CELL_MASK = 15;
    private static final int KEPT_CHARACTERS = 60;
    private static final int MOST_STEPS = 300;
    private static final int MOST_CALLS = 8;
    private static final int MOST_LOOPS = 6;

    // Between two steps a run passes at most 8 calls of 24 tokens that are no steps, so 300 steps stay far below this.
    private static final int MOST_TURNS = 1000000;

    private static final int MINUS = 45;
    private static final int DIGIT_ZERO = 48;
    private static final int BLANK = 32;

    // What a turn answers when the run has not ended, and what stands for the op of a part that is not there.
    private static final int GOING = -1;
    private static final int NO_OP = -1;

    private final byte[] handOps = new byte[MOST_TOKENS];
    private final short[] handNumbers = new short[MOST_TOKENS];
    private int handCount;

    // While parts are linked: the tokens that wait for their next neighbour, and where each token goes on.
    private final int[] waiting = new int[MOST_TOKENS];
    private int waitingCount;
    private final int[] goesOnAt = new int[MOST_TOKENS];
    private final int[] places = new int[MOST_PLACES];

    // Word w has its instructions from w * MOST_TOKENS on.
    private final byte[] codeOps = new byte[MOST_INSTRUCTIONS];
    private final short[] codeArguments = new short[MOST_INSTRUCTIONS];
    private final int[] wordLengths = new int[MOST_WORDS];
    private int wordCount;
    private int compileLevel;

    private final short[] stack = new short[MOST_NUMBERS];
    private int stackCount;
    private final short[] cells = new short[CELL_COUNT];
    private final byte[] characters = new byte[KEPT_CHARACTERS];
    private int characterCount;
    private int stepCount;

    // The calls that are going on: their word, their next instruction, and the loops that were there before them.
    private final int[] callWords = new int[MOST_CALLS];
    private final int[] callPlaces = new int[MOST_CALLS];
    private final int[] callLoops = new int[MOST_CALLS];
    private int callCount;

    private final short[] loopLimits = new short[MOST_LOOPS];
    private final short[] loopCounts = new short[MOST_LOOPS];
    private int loopCount;

    public ForthCompiler() {
        compileLevel = 1;
    }

    public int token(int op, int n) {
        if (handCount >= MOST_TOKENS) {
            return FULL;
        }
        if (op < OP_NUMBER || op > OP_EXIT) {
            return BAD;
        }
        if (op == OP_NUMBER && !isNumber(n)) {
            return BAD;
        }
        if (op == OP_CALL && (n < 0 || n >= MOST_WORDS)) {
            return BAD;
        }
        handOps[handCount] = (byte) op;
        handNumbers[handCount] = (short) n;
        handCount++;
        return handCount;
    }

    public int define() {
        if (wordCount >= MOST_WORDS) {
            return FULL;
        }
        if (!linkParts()) {
            return BAD;
        }
        placeInstructions();
        writeInstructions();
        handCount = 0;
        wordCount++;
        return wordCount - 1;
    }

    public int cancel() {
        int count = handCount;
        handCount = 0;
        return count;
    }

    // No word that is left calls the one that goes: a word calls only itself and words made before it.
    public int forget() {
        if (wordCount == 0) {
            return BAD;
        }
        wordCount--;
        return wordCount;
    }

    public boolean push(int x) {
        if (!isNumber(x) || stackCount >= MOST_NUMBERS) {
            return false;
        }
        putNumber(x);
        return true;
    }

    public int run(int w) {
        if (w < 0 || w >= wordCount) {
            return BAD;
        }
        characterCount = 0;
        stepCount = 0;
        callCount = 0;
        loopCount = 0;
        beginCall(w);
        int end = GOING;
        for (int turn = 0; turn < MOST_TURNS && end == GOING; turn++) {
            end = takeTurn();
        }
        if (end != ENDED) {
            stackCount = 0;
        }
        return end;
    }

    public int steps() {
        return stepCount;
    }

    public int depth() {
        return stackCount;
    }

    public int pick(int k) {
        if (k < 0 || k >= stackCount) {
            return 0;
        }
        return stack[stackCount - 1 - k];
    }

    public int cell(int i) {
        if (i < 0 || i >= CELL_COUNT) {
            return 0;
        }
        return cells[i];
    }

    public boolean setCell(int i, int x) {
        if (i < 0 || i >= CELL_COUNT || !isNumber(x)) {
            return false;
        }
        cells[i] = (short) x;
        return true;
    }

    public int printed() {
        return characterCount;
    }

    public int text(int k) {
        if (k < 0 || k >= characterCount || k >= KEPT_CHARACTERS) {
            return 0;
        }
        return characters[k];
    }

    public boolean level(int k) {
        if (k < 0 || k > 1) {
            return false;
        }
        compileLevel = k;
        return true;
    }

    private static boolean isNumber(int x) {
        return x >= LEAST_NUMBER && x <= GREATEST_NUMBER;
    }

    // ---- define: whether the parts fit, and where each of them goes on ----

    private boolean linkParts() {
        waitingCount = 0;
        for (int i = 0; i < handCount; i++) {
            if (!fits(i)) {
                return false;
            }
            link(i);
        }
        return waitingCount == 0;
    }

    // Only the latest waiting token may find its neighbour: so what is begun between two neighbours ends between them.
    private boolean fits(int i) {
        int before = waitingCount > 0 ? handOps[waiting[waitingCount - 1]] : NO_OP;
        switch (handOps[i]) {
            case OP_ELSE:
                return before == OP_IF;
            case OP_THEN:
                return before == OP_IF || before == OP_ELSE;
            case OP_UNTIL:
            case OP_WHILE:
                return before == OP_BEGIN;
            case OP_REPEAT:
                return before == OP_WHILE;
            case OP_LOOP:
                return before == OP_DO;
            case OP_I:
                return isInsideLoop();
            case OP_CALL:
                return handNumbers[i] <= wordCount;
            default:
                return true;
        }
    }

    private boolean isInsideLoop() {
        for (int k = 0; k < waitingCount; k++) {
            if (handOps[waiting[k]] == OP_DO) {
                return true;
            }
        }
        return false;
    }

    private void link(int i) {
        switch (handOps[i]) {
            case OP_IF:
            case OP_BEGIN:
            case OP_DO:
                waiting[waitingCount] = i;
                waitingCount++;
                break;
            case OP_ELSE:
                goesOnAt[waiting[waitingCount - 1]] = i + 1;
                waiting[waitingCount - 1] = i;
                break;
            case OP_THEN:
                waitingCount--;
                goesOnAt[waiting[waitingCount]] = i + 1;
                break;
            case OP_WHILE:
                // It is kept here for REPEAT, which then tells WHILE its own place.
                goesOnAt[i] = waiting[waitingCount - 1] + 1;
                waiting[waitingCount - 1] = i;
                break;
            case OP_REPEAT:
                waitingCount--;
                goesOnAt[i] = goesOnAt[waiting[waitingCount]];
                goesOnAt[waiting[waitingCount]] = i + 1;
                break;
            case OP_UNTIL:
            case OP_LOOP:
                waitingCount--;
                goesOnAt[i] = waiting[waitingCount] + 1;
                break;
            default:
                break;
        }
    }

    // ---- define: the instructions ----

    private void placeInstructions() {
        int length = 0;
        for (int i = 0; i < handCount; i++) {
            places[i] = length;
            if (leavesInstruction(handOps[i])) {
                length++;
            }
        }
        places[handCount] = length;
        wordLengths[wordCount] = length;
    }

    private void writeInstructions() {
        int base = wordCount * MOST_TOKENS;
        for (int i = 0; i < handCount; i++) {
            int op = handOps[i];
            if (leavesInstruction(op)) {
                int at = base + places[i];
                codeOps[at] = (byte) op;
                codeArguments[at] = goesOnElsewhere(op) ? (short) places[goesOnAt[i]] : handNumbers[i];
            }
        }
    }

    // At level 0 every token is an instruction; at level 1 those that do nothing are left out.
    private boolean leavesInstruction(int op) {
        return compileLevel == 0 || !doesNothing(op);
    }

    private static boolean doesNothing(int op) {
        return op == OP_THEN || op == OP_BEGIN;
    }

    private static boolean goesOnElsewhere(int op) {
        switch (op) {
            case OP_IF:
            case OP_ELSE:
            case OP_UNTIL:
            case OP_WHILE:
            case OP_REPEAT:
            case OP_LOOP:
                return true;
            default:
                return false;
        }
    }

    // ---- run: one instruction, or the end of a call ----

    private int takeTurn() {
        int word = callWords[callCount - 1];
        int place = callPlaces[callCount - 1];
        if (place >= wordLengths[word]) {
            return endCall();
        }
        int at = word * MOST_TOKENS + place;
        int op = codeOps[at];
        goOn(place + 1);
        if (doesNothing(op)) {
            return GOING;
        }
        int fault = findFault(op);
        if (fault != ENDED) {
            return fault;
        }
        stepCount++;
        return execute(op, codeArguments[at]);
    }

    private int findFault(int op) {
        if (stepCount >= MOST_STEPS) {
            return TIRED;
        }
        if (stackCount < numbersTaken(op)) {
            return UNDER;
        }
        if ((op == OP_DIVIDE || op == OP_REST) && stack[stackCount - 1] == 0) {
            return ZERO;
        }
        if (growsStack(op) && stackCount >= MOST_NUMBERS) {
            return OVER;
        }
        if (op == OP_CALL && callCount >= MOST_CALLS) {
            return DEEP;
        }
        if (op == OP_DO && loopCount >= MOST_LOOPS) {
            return DEEP;
        }
        return ENDED;
    }

    private static int numbersTaken(int op) {
        switch (op) {
            case OP_ROT:
                return 3;
            case OP_SWAP:
            case OP_OVER:
            case OP_STORE:
            case OP_DO:
                return 2;
            case OP_DUP:
            case OP_DROP:
            case OP_PRINT:
            case OP_IF:
            case OP_UNTIL:
            case OP_WHILE:
                return 1;
            default:
                break;
        }
        if (joinsTwo(op)) {
            return 2;
        }
        return altersOne(op) ? 1 : 0;
    }

    private static boolean growsStack(int op) {
        return op == OP_NUMBER || op == OP_DUP || op == OP_OVER || op == OP_I;
    }

    private static boolean joinsTwo(int op) {
        return op >= OP_ADD && op <= OP_EQUAL || op >= OP_AND && op <= OP_XOR;
    }

    private static boolean altersOne(int op) {
        return op == OP_IS_ZERO || op >= OP_INVERT && op <= OP_FETCH;
    }

    // From here on findFault has seen to it that the stack, the calls and the loops have room and numbers enough.
    private int execute(int op, int argument) {
        if (op >= OP_DO) {
            return executeLoop(op, argument);
        }
        if (op >= OP_CALL) {
            executeJump(op, argument);
        } else if (op <= OP_ROT) {
            arrange(op, argument);
        } else if (joinsTwo(op)) {
            int b = takeNumber();
            int a = takeNumber();
            int result = join(op, a, b);
            putNumber(result);
        } else if (altersOne(op)) {
            int a = takeNumber();
            int result = alter(op, a);
            putNumber(result);
        } else if (op == OP_STORE) {
            int b = takeNumber();
            int a = takeNumber();
            cells[b & CELL_MASK] = (short) a;
        } else {
            int a = takeNumber();
            print(a);
        }
        return GOING;
    }

    private void arrange(int op, int argument) {
        switch (op) {
            case OP_NUMBER:
                putNumber(argument);
                break;
            case OP_DUP:
                putNumber(stack[stackCount - 1]);
                break;
            case OP_DROP:
                stackCount--;
                break;
            case OP_SWAP:
                bringUp(1);
                break;
            case OP_OVER:
                putNumber(stack[stackCount - 2]);
                break;
            default:
                bringUp(2);
                break;
        }
    }

    private void bringUp(int k) {
        int top = stackCount - 1;
        short number = stack[top - k];
        for (int i = top - k; i < top; i++) {
            stack[i] = stack[i + 1];
        }
        stack[top] = number;
    }

    // b = 0 is ZERO and does not come here for the two divisions; LANGUAGE.md wants a divisor looked at all the same.
    private static int join(int op, int a, int b) {
        switch (op) {
            case OP_ADD:
                return a + b;
            case OP_SUBTRACT:
                return a - b;
            case OP_MULTIPLY:
                return a * b;
            case OP_DIVIDE:
                return b == 0 ? 0 : a / b;
            case OP_REST:
                return b == 0 ? 0 : a % b;
            case OP_LESS:
                return a < b ? TRUTH : 0;
            case OP_EQUAL:
                return a == b ? TRUTH : 0;
            case OP_AND:
                return a & b;
            case OP_OR:
                return a | b;
            default:
                return a ^ b;
        }
    }

    private int alter(int op, int a) {
        switch (op) {
            case OP_IS_ZERO:
                return a == 0 ? TRUTH : 0;
            case OP_INVERT:
                return ~a;
            case OP_NEGATE:
                return -a;
            default:
                return cells[a & CELL_MASK];
        }
    }

    private void executeJump(int op, int argument) {
        switch (op) {
            case OP_CALL:
                beginCall(argument);
                break;
            case OP_IF:
            case OP_UNTIL:
            case OP_WHILE:
                int a = takeNumber();
                if (a == 0) {
                    goOn(argument);
                }
                break;
            default:
                goOn(argument);
                break;
        }
    }

    // fits has seen to it that LOOP and I stand inside a loop of their own call.
    private int executeLoop(int op, int argument) {
        switch (op) {
            case OP_DO:
                loopCounts[loopCount] = (short) takeNumber();
                loopLimits[loopCount] = (short) takeNumber();
                loopCount++;
                return GOING;
            case OP_LOOP:
                loopCounts[loopCount - 1]++;
                if (loopCounts[loopCount - 1] == loopLimits[loopCount - 1]) {
                    loopCount--;
                } else {
                    goOn(argument);
                }
                return GOING;
            case OP_I:
                putNumber(loopCounts[loopCount - 1]);
                return GOING;
            default:
                return endCall();
        }
    }

    private void goOn(int place) {
        callPlaces[callCount - 1] = place;
    }

    private void beginCall(int word) {
        callWords[callCount] = word;
        callPlaces[callCount] = 0;
        callLoops[callCount] = loopCount;
        callCount++;
    }

    private int endCall() {
        callCount--;
        loopCount = callLoops[callCount];
        return callCount == 0 ? ENDED : GOING;
    }

    private void putNumber(int x) {
        stack[stackCount] = (short) x;
        stackCount++;
    }

    private int takeNumber() {
        stackCount--;
        return stack[stackCount];
    }

    private void print(int a) {
        if (a < 0) {
            addCharacter(MINUS);
        }
        int size = a < 0 ? -a : a;
        for (int unit = 10000; unit > 0; unit = unit / 10) {
            if (size >= unit || unit == 1) {
                addCharacter(DIGIT_ZERO + size / unit % 10);
            }
        }
        addCharacter(BLANK);
    }

    private void addCharacter(int character) {
        if (characterCount < KEPT_CHARACTERS) {
            characters[characterCount] = (byte) character;
        }
        characterCount++;
    }
}

/**
 * A small machine that goes on as if nothing had happened while single bits of it are turned over.
 *
 * Registers, place and work are tripled and voted on; cells and steps are code words that
 * correct one wrong bit. Hits really change what is held, and only vote and code make them good.
 */
public final class ShieldedMachine {
    public static final int BAD = -1;

    private static final int STOP = 0;
    private static final int SET = 1;
    private static final int LOAD = 2;
    private static final int STORE = 3;
    private static final int ADD = 4;
    private static final int SUB = 5;
    private static final int AND = 6;
    private static final int XOR = 7;
    private static final int HALF = 8;
    private static final int JUMP = 9;
    private static final int ZERO = 10;
    private static final int OUT = 11;
    private static final int FETCH = 12;
    private static final int KEEP = 13;

    private static final int REGISTERS = 4;
    private static final int CELLS = 16;
    private static final int PLACES = 32;
    private static final int MOST_OUTS = 16;
    private static final int MOST_STEPS = 100;
    private static final int GREATEST_BYTE = 255;
    private static final int GREATEST_PLACE = 31;

    /** The slots 0 .. 3 of what is tripled are the registers. */
    private static final int PLACE_SLOT = 4;
    private static final int WORK_SLOT = 5;
    private static final int SLOTS = 6;
    private static final int COPIES = 3;
    private static final int ALL_COPIES = SLOTS * COPIES;

    private static final int CELL_BITS = 13;
    private static final int STEP_BITS = 22;
    private static final int TURNS = PLACES + CELLS;

    private static final int NO_CELL = -1;

    /** Between steps the work slot holds 0 but for its hits, so that results can be laid over them. */
    private final int[] copies = new int[ALL_COPIES];
    /** For each slot 0, or 1 + the copy hit since the last step: a second hit may undo the first, so the copies don't tell. */
    private final int[] hitCopies = new int[SLOTS];
    private final int[] cellWords = new int[CELLS];
    private final int[] stepWords = new int[PLACES];
    private final int[] outBytes = new int[MOST_OUTS];
    private int outCount;
    private boolean halted;
    /** The number of steps done since the very beginning, modulo TURNS; reset leaves it. */
    private int turn;

    /** Nothing to do: 0 is the code word of 0, so the zeros of new fields are the first state. */
    public ShieldedMachine() {
    }

    public boolean set(int place, int op, int r, int n) {
        if (!isWithin(place, 0, PLACES - 1) || !isWithin(op, STOP, KEEP)) {
            return false;
        }
        if (!isWithin(r, 0, REGISTERS - 1) || !isWithin(n, 0, GREATEST_BYTE)) {
            return false;
        }
        stepWords[place] = encoded(op << 10 | r << 8 | n, STEP_BITS);
        return true;
    }

    public boolean setData(int cell, int v) {
        if (!isWithin(cell, 0, CELLS - 1) || !isWithin(v, 0, GREATEST_BYTE)) {
            return false;
        }
        cellWords[cell] = encoded(v, CELL_BITS);
        return true;
    }

    public int run(int n) {
        if (!isWithin(n, 0, MOST_STEPS)) {
            return BAD;
        }
        int done = 0;
        while (done < n && !halted) {
            doStep();
            done++;
        }
        return done;
    }

    public void reset() {
        for (int slot = 0; slot < SLOTS; slot++) {
            write(slot, 0);
        }
        outCount = 0;
        halted = false;
    }

    public boolean hitRegister(int r, int copy, int mask) {
        return isWithin(r, 0, REGISTERS - 1) && hitSlot(r, copy, mask, GREATEST_BYTE);
    }

    public boolean hitPlace(int copy, int mask) {
        return hitSlot(PLACE_SLOT, copy, mask, GREATEST_PLACE);
    }

    public boolean hitWork(int copy, int mask) {
        return hitSlot(WORK_SLOT, copy, mask, GREATEST_BYTE);
    }

    public boolean hitData(int cell, int bit) {
        return isWithin(cell, 0, CELLS - 1) && hitWord(cellWords, cell, bit, CELL_BITS);
    }

    public boolean hitProgram(int place, int bit) {
        return isWithin(place, 0, PLACES - 1) && hitWord(stepWords, place, bit, STEP_BITS);
    }

    public int register(int r) {
        return isWithin(r, 0, REGISTERS - 1) ? voted(r) : BAD;
    }

    public int place() {
        return voted(PLACE_SLOT);
    }

    public int data(int cell) {
        return isWithin(cell, 0, CELLS - 1) ? decoded(cellWords[cell], CELL_BITS) : BAD;
    }

    public int outs() {
        return outCount;
    }

    public int out(int i) {
        return isWithin(i, 0, outCount - 1) ? outBytes[i] : BAD;
    }

    public boolean stopped() {
        return halted;
    }

    public int spoiled() {
        int count = 0;
        for (int cell = 0; cell < CELLS; cell++) {
            count += parity(cellWords[cell], CELL_BITS);
        }
        for (int at = 0; at < PLACES; at++) {
            count += parity(stepWords[at], STEP_BITS);
        }
        return count;
    }

    private static boolean isWithin(int value, int least, int greatest) {
        return least <= value && value <= greatest;
    }

    // ---- the steps ----

    private void doStep() {
        // Voted on before the work: a hit copy and hit work together would outvote the third.
        healSlots();
        int at = voted(PLACE_SLOT) & GREATEST_PLACE;
        repair(stepWords, at, STEP_BITS);
        int step = decoded(stepWords[at], STEP_BITS);
        int op = step >> 10 & 15;
        int r = step >> 8 & 3;
        int n = step & 255;
        int value = voted(r);
        int s = voted(n & 3);
        int cell = cellOfStep(op, n, s);
        int held = 0;
        if (cell != NO_CELL) {
            repair(cellWords, cell, CELL_BITS);
            held = decoded(cellWords[cell], CELL_BITS);
        }
        for (int copy = 0; copy < COPIES; copy++) {
            copies[WORK_SLOT * COPIES + copy] ^= workedOut(op, value, n, s, held, at);
        }
        int result = voted(WORK_SLOT);
        write(WORK_SLOT, 0);
        finishStep(op, r, cell, at, result);
        repairInTurn();
    }

    private static int cellOfStep(int op, int n, int s) {
        if (op == LOAD || op == STORE) {
            return n & 15;
        }
        if (op == FETCH || op == KEEP) {
            return s & 15;
        }
        return NO_CELL;
    }

    /** The byte that a step makes, moves or goes to. */
    private static int workedOut(int op, int value, int n, int s, int held, int at) {
        switch (op) {
            case SET:
                return n;
            case LOAD:
            case FETCH:
                return held;
            case ADD:
                return value + s & 255;
            case SUB:
                return value - s & 255;
            case AND:
                return value & s;
            case XOR:
                return value ^ s;
            case HALF:
                return value >> 1;
            case JUMP:
                return n & 31;
            case ZERO:
                return value == 0 ? n & 31 : at + 1 & 31;
            default:
                return value;
        }
    }

    private void finishStep(int op, int r, int cell, int at, int result) {
        int next = at + 1 & 31;
        switch (op) {
            case STOP:
                halted = true;
                next = at;
                break;
            case OUT:
                if (outCount < MOST_OUTS) {
                    outBytes[outCount] = result;
                    outCount++;
                } else {
                    halted = true;
                    next = at;
                }
                break;
            case STORE:
            case KEEP:
                if (cell != NO_CELL) {
                    cellWords[cell] = encoded(result, CELL_BITS);
                }
                break;
            case JUMP:
            case ZERO:
                next = result;
                break;
            default:
                write(r, result);
                break;
        }
        write(PLACE_SLOT, next);
    }

    private void repairInTurn() {
        if (turn < PLACES) {
            repair(stepWords, turn, STEP_BITS);
        } else {
            repair(cellWords, turn - PLACES, CELL_BITS);
        }
        turn = (turn + 1) % TURNS;
    }

    // ---- what is tripled ----

    private int voted(int slot) {
        int first = copies[slot * COPIES];
        int second = copies[slot * COPIES + 1];
        int third = copies[slot * COPIES + 2];
        return first & second | first & third | second & third;
    }

    private void write(int slot, int value) {
        for (int copy = 0; copy < COPIES; copy++) {
            copies[slot * COPIES + copy] = value;
        }
        hitCopies[slot] = 0;
    }

    /** The work slot is left out: its hits are for the step that is about to be done. */
    private void healSlots() {
        for (int slot = 0; slot < WORK_SLOT; slot++) {
            int value = voted(slot);
            write(slot, value);
        }
    }

    private boolean hitSlot(int slot, int copy, int mask, int greatestMask) {
        if (!isWithin(copy, 0, COPIES - 1) || !isWithin(mask, 1, greatestMask)) {
            return false;
        }
        if (hitCopies[slot] != 0 && hitCopies[slot] != copy + 1) {
            return false;
        }
        copies[slot * COPIES + copy] ^= mask;
        hitCopies[slot] = copy + 1;
        return true;
    }

    // ---- code words ----
    // A Hamming code: the positions of all set bits, xored, give 0, or the position of a wrong bit.
    // Bit 0 makes the number of set bits even, so that an odd number tells a hit, that of bit 0 too.

    private static boolean isCheckPosition(int position) {
        return (position & position - 1) == 0;
    }

    private static int encoded(int value, int bits) {
        int word = 0;
        int left = value;
        for (int position = 1; position < bits; position++) {
            if (!isCheckPosition(position)) {
                word |= (left & 1) << position;
                left >>= 1;
            }
        }
        int check = syndrome(word, bits);
        for (int position = 1; position < bits; position++) {
            if (isCheckPosition(position) && (check & position) != 0) {
                word |= 1 << position;
            }
        }
        return word | parity(word, bits);
    }

    private static int decoded(int word, int bits) {
        int right = corrected(word, bits);
        int value = 0;
        int taken = 0;
        for (int position = 1; position < bits; position++) {
            if (!isCheckPosition(position)) {
                value |= (right >> position & 1) << taken;
                taken++;
            }
        }
        return value;
    }

    private static int corrected(int word, int bits) {
        return parity(word, bits) == 0 ? word : word ^ 1 << syndrome(word, bits);
    }

    private static int syndrome(int word, int bits) {
        int sum = 0;
        for (int position = 1; position < bits; position++) {
            if ((word >> position & 1) != 0) {
                sum ^= position;
            }
        }
        return sum;
    }

    private static int parity(int word, int bits) {
        int sum = 0;
        for (int position = 0; position < bits; position++) {
            sum ^= word >> position & 1;
        }
        return sum;
    }

    private static void repair(int[] words, int index, int bits) {
        words[index] = corrected(words[index], bits);
    }

    /** A second wrong bit could not be made good, so a word that is spoiled is not hit again. */
    private static boolean hitWord(int[] words, int index, int bit, int bits) {
        if (!isWithin(bit, 0, bits - 1) || parity(words[index], bits) != 0) {
            return false;
        }
        words[index] ^= 1 << bit;
        return true;
    }
}

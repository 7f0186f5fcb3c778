/**
 * The boundary cases that "What it is" and "Terms" name: for each sentence, or row of the table of the
 * operations, a test of its own, with the words of the document above it.
 */
public final class BoundaryTermsTest extends Steps {
    public static void main(String[] args) {
        Check.runAll(BoundaryTermsTest.class);
        Check.end();
    }

    // ---- What it is ----

    /** "An object is used for at most 512 calls after it has been made": the 512th is answered as the first. */
    static void usedFor512Calls() {
        for (int beside = -1; beside <= 1; beside++) {
            ShieldedMachine x = machine(JUMP, 0, 0);
            for (int call = 2; call <= 509; call++) {
                due("run as call " + call, x.run(100), 100);
            }
            // 50800 steps were done, and 50800 mod 48 is 16
            due("call 510", x.hitProgram(16 + beside, 5), true);
            due("call 511", x.run(1), 1);
            due("call 512", x.spoiled(), beside == 0 ? 0 : 1);
        }
    }

    /** "what later calls answer is free": but no call ever throws, which LANGUAGE.md asks at any time. */
    static void laterCallsEndToo() {
        int[] values = {LOW, -1, 0, 1, 2, 3, 4, 12, 13, 15, 16, 21, 22, 31, 32, 100, 101, 255, 256, HIGH};
        ShieldedMachine x = machine(OUT, 0, 0, JUMP, 0, 0);
        for (int a : values) {
            for (int b : values) {
                x.set(a, b, b, b);
                x.setData(a, b);
                x.hitRegister(a, b, b);
                x.hitPlace(a, b);
                x.hitWork(a, b);
                x.hitData(a, b);
                x.hitProgram(a, b);
                x.run(b);
            }
            x.reset();
            due("register", x.register(a) >= BAD, true);
            due("data", x.data(a) >= BAD, true);
            due("out", x.out(a) >= BAD, true);
        }
    }

    // ---- Terms: what there is ----

    /** "REGISTERS 0 .. 3 ... which hold bytes (0 .. 255)". */
    static void registersHoldBytes() {
        ShieldedMachine x = machine(SET, 0, 255, SET, 3, 255, SET, 1, 0, SET, 2, 254, SET, 0, 0);
        due("steps", x.run(4), 4);
        due("register 0", x.register(0), 255);
        due("register 3", x.register(3), 255);
        due("register 1", x.register(1), 0);
        due("register 2", x.register(2), 254);
        due("step", x.run(1), 1);
        due("register 0 is 0 again", x.register(0), 0);
    }

    /** "DATA cells 0 .. 15, which hold bytes (0 .. 255)". */
    static void cellsHoldBytes() {
        ShieldedMachine x = new ShieldedMachine();
        for (int cell = 0; cell < 16; cell++) {
            due("setData", x.setData(cell, 255), true);
            due("data", x.data(cell), 255);
            due("the next cell is not it", x.data((cell + 1) % 16), cell == 15 ? 255 : 0);
        }
        for (int cell = 0; cell < 16; cell++) {
            due("setData", x.setData(cell, 0), true);
            due("data", x.data(cell), 0);
        }
    }

    /** "a PROGRAM of 32 steps at the places 0 .. 31": it can be full, and each of its steps is done. */
    static void programCanBeFull() {
        ShieldedMachine x = new ShieldedMachine();
        for (int place = 0; place < 32; place++) {
            due("set", x.set(place, SET, place % 4, 200 + place), true);
        }
        for (int place = 0; place < 32; place++) {
            due("place", x.place(), place);
            due("run", x.run(1), 1);
            due("the step's own", x.register(place % 4), 200 + place);
        }
        due("round once", x.place(), 0);
        due("no STOP is left", x.run(100), 100);
        due("not stopped", x.stopped(), false);
    }

    /** "a list of at most sixteen bytes that it has put OUT". */
    static void sixteenBytesArePutOut() {
        ShieldedMachine x = machine(SET, 1, 1, OUT, 0, 0, ADD, 0, 1, JUMP, 0, 1);
        due("up to the sixteenth", x.run(1 + 15 * 3), 46);
        due("fifteen", x.outs(), 15);
        due("no sixteenth", x.out(15), BAD);
        due("the sixteenth", x.run(1), 1);
        due("sixteen", x.outs(), 16);
        due("byte 15", x.out(15), 15);
        due("not stopped by that", x.stopped(), false);
        due("place behind it", x.place(), 2);
    }

    /** "At first all is 0 ... nothing has been put out, and it is not stopped." */
    static void atFirstAllIsZero() {
        due("a new object", looks(new ShieldedMachine()), "registers 0 0 0 0, place 0, data 0 0 0 0 0 0 0 0 0 0 0 0 0 0 0 0,"
            + " 0 outs -1 -1 -1 -1 -1 -1 -1 -1 -1 -1 -1 -1 -1 -1 -1 -1 -1, stopped false, spoiled 0");
    }

    /** "At first ... (all steps are STOP)". */
    static void atFirstAllStepsAreStop() {
        ShieldedMachine first = new ShieldedMachine();
        due("place 0", first.run(100), 1);
        due("stopped", first.stopped(), true);
        for (int place = 1; place < 32; place++) {
            ShieldedMachine x = machine(JUMP, 0, place);
            due("jump and stop", x.run(100), 2);
            due("stopped", x.stopped(), true);
            due("place", x.place(), place);
        }
    }

    // ---- Terms: the table of the operations ----

    /** "STOP     the machine is stopped, its place stays": at the last place too, whatever r and n are. */
    static void stopStays() {
        ShieldedMachine x = atLastPlace(STOP, 3, 255, 1, 2, 3, 4);
        due("run", x.run(100), 1);
        due("stopped", x.stopped(), true);
        due("place", x.place(), 31);
        due("register 3", x.register(3), 4);
        ShieldedMachine y = new ShieldedMachine();
        due("run", y.run(100), 1);
        due("place 0 stays too", y.place(), 0);
    }

    /** "SET r n  r becomes n". */
    static void setTakesTheWholeNumber() {
        int[] numbers = {0, 1, 15, 16, 31, 32, 127, 128, 254, 255};
        for (int n : numbers) {
            for (int r = 0; r < 4; r++) {
                ShieldedMachine x = atLastPlace(SET, r, n, 9, 9, 9, 9);
                x.run(1);
                for (int each = 0; each < 4; each++) {
                    due("register after SET " + n, x.register(each), each == r ? n : 9);
                }
            }
        }
    }

    /** "LOAD r   r becomes the cell n mod 16". */
    static void loadTakesNumberMod16() {
        int[] numbers = {0, 15, 16, 17, 31, 32, 127, 128, 239, 240, 255};
        for (int n : numbers) {
            ShieldedMachine x = atLastPlace(LOAD, 2, n, 1, 1, 1, 1);
            fillCells(x);
            x.run(1);
            due("register after LOAD " + n, x.register(2), 200 + n % 16);
            dueCells(x, -1, 0);
        }
    }

    /** "STORE r  the cell n mod 16 becomes r". */
    static void storeTakesNumberMod16() {
        int[] numbers = {0, 15, 16, 17, 31, 32, 127, 128, 239, 240, 255};
        for (int n : numbers) {
            ShieldedMachine x = atLastPlace(STORE, 1, n, 1, 255, 3, 4);
            fillCells(x);
            x.run(1);
            dueCells(x, n % 16, 255);
            due("register stays", x.register(1), 255);
        }
    }

    private static void fillCells(ShieldedMachine x) {
        for (int cell = 0; cell < 16; cell++) {
            due("setData", x.setData(cell, 200 + cell), true);
        }
    }

    private static void dueCells(ShieldedMachine x, int changed, int value) {
        for (int cell = 0; cell < 16; cell++) {
            due("cell " + cell, x.data(cell), cell == changed ? value : 200 + cell);
        }
    }

    /** What register 1 holds after the operation with register 2, beside registers that would spoil it. */
    private static int worked(int op, int value, int s) {
        ShieldedMachine x = atLastPlace(op, 1, 2, 93, value, s, 57);
        due("run", x.run(1), 1);
        due("s stays", x.register(2), s);
        due("register 0 stays", x.register(0), 93);
        due("register 3 stays", x.register(3), 57);
        return x.register(1);
    }

    /** What register 2 holds after the operation with itself. */
    private static int workedOnItself(int op, int value) {
        ShieldedMachine x = atLastPlace(op, 2, 2, 93, 57, value, 57);
        due("run", x.run(1), 1);
        return x.register(2);
    }

    /** "ADD r    r becomes r + s, modulo 256". */
    static void addWrapsAround() {
        due("254 + 1", worked(ADD, 254, 1), 255);
        due("255 + 1", worked(ADD, 255, 1), 0);
        due("1 + 255", worked(ADD, 1, 255), 0);
        due("255 + 2", worked(ADD, 255, 2), 1);
        due("128 + 128", worked(ADD, 128, 128), 0);
        due("255 + 255", worked(ADD, 255, 255), 254);
        due("0 + 0", worked(ADD, 0, 0), 0);
        due("255 + 0", worked(ADD, 255, 0), 255);
        due("255 + itself", workedOnItself(ADD, 255), 254);
        due("128 + itself", workedOnItself(ADD, 128), 0);
    }

    /** "SUB r    r becomes r - s, modulo 256". */
    static void subWrapsAround() {
        due("1 - 1", worked(SUB, 1, 1), 0);
        due("0 - 1", worked(SUB, 0, 1), 255);
        due("0 - 255", worked(SUB, 0, 255), 1);
        due("254 - 255", worked(SUB, 254, 255), 255);
        due("255 - 255", worked(SUB, 255, 255), 0);
        due("255 - 0", worked(SUB, 255, 0), 255);
        due("0 - 128", worked(SUB, 0, 128), 128);
        due("255 - itself", workedOnItself(SUB, 255), 0);
    }

    /** "AND r    r becomes r and s". */
    static void andOfAllAndNoBits() {
        due("255 and 255", worked(AND, 255, 255), 255);
        due("255 and 0", worked(AND, 255, 0), 0);
        due("0 and 255", worked(AND, 0, 255), 0);
        due("129 and 128", worked(AND, 129, 128), 128);
        due("170 and 85", worked(AND, 170, 85), 0);
        due("255 and itself", workedOnItself(AND, 255), 255);
    }

    /** "XOR r     r becomes r xor s". */
    static void xorOfAllAndNoBits() {
        due("255 xor 255", worked(XOR, 255, 255), 0);
        due("255 xor 0", worked(XOR, 255, 0), 255);
        due("0 xor 255", worked(XOR, 0, 255), 255);
        due("170 xor 85", worked(XOR, 170, 85), 255);
        due("255 xor itself", workedOnItself(XOR, 255), 0);
    }

    /** "JUMP      goes on at n mod 32". */
    static void jumpGoesToNumberMod32() {
        int[] numbers = {0, 1, 30, 31, 32, 33, 63, 64, 127, 128, 223, 224, 255};
        for (int n : numbers) {
            ShieldedMachine x = atLastPlace(JUMP, 1, n, 1, 2, 3, 4);
            due("run", x.run(1), 1);
            due("place after JUMP " + n, x.place(), n % 32);
            due("register 1 stays", x.register(1), 2);
            due("not stopped", x.stopped(), false);
        }
    }

    /** "ZERO r    goes on at n mod 32 when r is 0". */
    static void zeroGoesToNumberMod32WhenZero() {
        int[] numbers = {1, 30, 31, 32, 33, 63, 64, 127, 128, 223, 224, 255};
        for (int n : numbers) {
            ShieldedMachine x = atLastPlace(ZERO, 1, n, 1, 0, 3, 4);
            due("run", x.run(1), 1);
            due("place after ZERO " + n, x.place(), n % 32);
            due("register 1 stays", x.register(1), 0);
        }
    }

    /** "when r is 0": not when a single bit of it is set, nor when only the other registers are 0. */
    static void zeroGoesOnWhenNotZero() {
        int[] values = {1, 2, 4, 8, 16, 32, 64, 128, 255};
        for (int value : values) {
            ShieldedMachine x = machine(SET, 3, value, ZERO, 3, 20);
            due("run", x.run(2), 2);
            due("place after ZERO of " + value, x.place(), 2);
            due("register 3 stays", x.register(3), value);
        }
    }

    /** "OUT r     ... when sixteen were, it is not, the machine is stopped, and its place stays". */
    static void seventeenthOutStops() {
        ShieldedMachine x = full();
        due("the seventeenth is a step", x.run(100), 1);
        due("it is not put out", x.outs(), 16);
        due("no byte 16", x.out(16), BAD);
        due("stopped", x.stopped(), true);
        due("place stays", x.place(), 31);
        due("nothing more is done", x.run(100), 0);
        for (int i = 0; i < 16; i++) {
            due("what was put out stays", x.out(i), i == 0 ? 10 : 20);
        }
    }

    /** "when sixteen were": after a reset none were, so sixteen more are put out. */
    static void outsCountAnewBehindReset() {
        ShieldedMachine x = full();
        x.run(1);
        x.reset();
        due("set", x.set(0, OUT, 3, 0), true);
        due("set", x.set(1, JUMP, 0, 0), true);
        due("sixteen and the seventeenth", x.run(100), 33);
        due("sixteen", x.outs(), 16);
        due("byte 0", x.out(0), 0);
        due("byte 15", x.out(15), 0);
        due("stopped", x.stopped(), true);
        due("place", x.place(), 0);
    }

    /** A machine that has put sixteen bytes out, 10 and fifteen times 20, and is at an OUT at place 31. */
    private static ShieldedMachine full() {
        ShieldedMachine x = machine(SET, 0, 10, OUT, 0, 0, SET, 0, 20);
        for (int place = 3; place < 18; place++) {
            due("set", x.set(place, OUT, 0, 0), true);
        }
        due("set", x.set(18, JUMP, 0, 31), true);
        due("set", x.set(31, OUT, 0, 0), true);
        due("steps", x.run(19), 19);
        due("sixteen", x.outs(), 16);
        due("not stopped", x.stopped(), false);
        due("place", x.place(), 31);
        return x;
    }

    /** "FETCH r   r becomes the cell s mod 16". */
    static void fetchTakesRegisterMod16() {
        int[] values = {0, 15, 16, 17, 31, 32, 127, 128, 239, 240, 255};
        for (int s : values) {
            ShieldedMachine x = atLastPlace(FETCH, 2, 3, 5, 6, 7, s);
            fillCells(x);
            x.run(1);
            due("register after FETCH of " + s, x.register(2), 200 + s % 16);
            due("s stays", x.register(3), s);
            dueCells(x, -1, 0);
            ShieldedMachine y = atLastPlace(FETCH, 3, 3, 5, 6, 7, s);
            fillCells(y);
            y.run(1);
            due("FETCH through itself", y.register(3), 200 + s % 16);
        }
    }

    /** "KEEP r    the cell s mod 16 becomes r". */
    static void keepTakesRegisterMod16() {
        int[] values = {0, 15, 16, 17, 31, 32, 127, 128, 239, 240, 255};
        for (int s : values) {
            ShieldedMachine x = atLastPlace(KEEP, 2, 3, 5, 6, 77, s);
            fillCells(x);
            x.run(1);
            dueCells(x, s % 16, 77);
            due("register stays", x.register(2), 77);
            ShieldedMachine y = atLastPlace(KEEP, 3, 3, 5, 6, 77, s);
            fillCells(y);
            y.run(1);
            dueCells(y, s % 16, s);
        }
    }

    /** "where s is the register n mod 4". */
    static void otherRegisterIsNumberMod4() {
        int[] bytes = {33, 66, 148, 87};
        int[] numbers = {0, 1, 2, 3, 4, 5, 6, 7, 8, 127, 128, 251, 252, 253, 254, 255};
        for (int n : numbers) {
            int s = bytes[n % 4];
            due("ADD with " + n, workedWith(ADD, n, bytes), (33 + s) % 256);
            due("SUB with " + n, workedWith(SUB, n, bytes), (33 + 256 - s) % 256);
            due("AND with " + n, workedWith(AND, n, bytes), 33 & s);
            due("XOR with " + n, workedWith(XOR, n, bytes), 33 ^ s);
            due("FETCH with " + n, workedWith(FETCH, n, bytes), 200 + s % 16);
            ShieldedMachine x = atLastPlace(KEEP, 0, n, bytes);
            fillCells(x);
            x.run(1);
            dueCells(x, s % 16, 33);
        }
    }

    private static int workedWith(int op, int n, int[] bytes) {
        ShieldedMachine x = atLastPlace(op, 0, n, bytes);
        fillCells(x);
        due("run", x.run(1), 1);
        return x.register(0);
    }

    /** "Unless said otherwise it goes on at its place + 1 modulo 32." */
    static void placeWrapsAround() {
        int[] going = {SET, LOAD, STORE, ADD, SUB, AND, XOR, HALF, ZERO, OUT, FETCH, KEEP};
        for (int op : going) {
            ShieldedMachine x = atLastPlace(op, 1, 7, 1, 2, 3, 4);
            due("run", x.run(1), 1);
            due("place behind 31 after op " + op, x.place(), 0);
            due("not stopped", x.stopped(), false);
            ShieldedMachine y = machine(SET, 1, 2, JUMP, 0, 30);
            y.set(30, op, 1, 7);
            due("run", y.run(3), 3);
            due("place behind 30 after op " + op, y.place(), 31);
        }
    }

    // ---- Terms: hits and repairs ----

    /** "a cell has 13 bits": each of them can be hit and is made good, for each byte. */
    static void cellHas13Bits() {
        for (int value = 0; value < 256; value++) {
            for (int bit = 0; bit < 13; bit++) {
                ShieldedMachine x = machine(LOAD, 1, 15);
                x.setData(15, value);
                due("hit of bit " + bit, x.hitData(15, bit), true);
                due("data", x.data(15), value);
                due("spoiled", x.spoiled(), 1);
                due("run", x.run(1), 1);
                due("loaded", x.register(1), value);
                due("repaired", x.spoiled(), 0);
                due("data", x.data(15), value);
            }
        }
    }

    /** "a step 22": each of its bits can be hit and is made good, for each operation, register and number. */
    static void stepHas22Bits() {
        int[] numbers = {0, 1, 2, 4, 8, 16, 32, 64, 128, 255};
        for (int op = 0; op <= 13; op++) {
            for (int r = 0; r < 4; r++) {
                for (int n : numbers) {
                    for (int bit = 0; bit < 22; bit++) {
                        hitStepGoesOn(op, r, n, bit);
                    }
                }
            }
        }
    }

    private static void hitStepGoesOn(int op, int r, int n, int bit) {
        ShieldedMachine x = atLastPlace(op, r, n, 0, 49, 98, 253);
        ShieldedMachine y = atLastPlace(op, r, n, 0, 49, 98, 253);
        fillCells(x);
        fillCells(y);
        due("hit of bit " + bit, x.hitProgram(31, bit), true);
        due("spoiled", x.spoiled(), 1);
        x.run(1);
        y.run(1);
        due("after op " + op + " with bit " + bit + " hit", looks(x), looks(y));
    }

    /** "A code word is SPOILED when it was hit and not REPAIRED since." */
    static void spoiledUntilRepaired() {
        ShieldedMachine x = new ShieldedMachine();
        due("never hit", x.spoiled(), 0);
        due("hit", x.hitData(3, 0), true);
        due("hit and not repaired", x.spoiled(), 1);
        due("setData", x.setData(3, 0), true);
        due("repaired since", x.spoiled(), 0);
        due("hit again", x.hitData(3, 0), true);
        due("hit behind the repair", x.spoiled(), 1);
        due("another kind", x.hitProgram(3, 21), true);
        due("both", x.spoiled(), 2);
    }

    /** "It is repaired when this step ... is set (by set ...; no other one is then)". */
    static void setRepairsThisStepAlone() {
        for (int place = 0; place < 32; place++) {
            ShieldedMachine x = allSpoiled();
            due("set", x.set(place, STOP, 0, 0), true);
            due("spoiled", x.spoiled(), 47);
            dueRepaired(x, place, -1);
        }
    }

    /** "It is repaired when ... this cell is set (by ... setData; no other one is then)". */
    static void setDataRepairsThisCellAlone() {
        for (int cell = 0; cell < 16; cell++) {
            ShieldedMachine x = allSpoiled();
            due("setData", x.setData(cell, 0), true);
            due("spoiled", x.spoiled(), 47);
            dueRepaired(x, -1, cell);
        }
    }

    private static ShieldedMachine allSpoiled() {
        ShieldedMachine x = new ShieldedMachine();
        spoilAll(x);
        return x;
    }

    private static void spoilAll(ShieldedMachine x) {
        for (int place = 0; place < 32; place++) {
            x.hitProgram(place, place % 22);
        }
        for (int cell = 0; cell < 16; cell++) {
            x.hitData(cell, cell % 13);
        }
        due("all are spoiled", x.spoiled(), 48);
    }

    /** Of all code words only this step and this cell (-1: none) take a hit, as the others are spoiled. */
    private static void dueRepaired(ShieldedMachine x, int step, int cell) {
        for (int each = 0; each < 32; each++) {
            due("step " + each + " was repaired", x.hitProgram(each, 1), each == step);
        }
        for (int each = 0; each < 16; each++) {
            due("cell " + each + " was repaired", x.hitData(each, 1), each == cell);
        }
    }

    /** "when it is the step that is done": whatever it does, and at which the machine stops too. */
    static void doneStepIsRepaired() {
        for (int op = 0; op <= 13; op++) {
            ShieldedMachine x = atLastPlace(op, 1, 6, 1, 2, 3, 4);
            due("hit", x.hitProgram(31, 21), true);
            due("hit", x.hitProgram(30, 21), true);
            due("hit", x.hitProgram(0, 21), true);
            due("run", x.run(1), 1);
            due("op " + op + " was repaired", x.hitProgram(31, 0), true);
            due("the one before was not", x.hitProgram(30, 0), false);
            due("the one behind was not", x.hitProgram(0, 0), false);
        }
        ShieldedMachine y = full();
        due("hit", y.hitProgram(31, 0), true);
        due("the seventeenth OUT", y.run(1), 1);
        due("stopped", y.stopped(), true);
        due("was repaired", y.hitProgram(31, 0), true);
    }

    /** "when it is the cell that a step reads or writes". */
    static void cellReadOrWrittenIsRepaired() {
        for (int cell = 0; cell < 16; cell++) {
            dueTouched(LOAD, 240 + cell, 0, cell);
            dueTouched(STORE, 16 + cell, 0, cell);
            dueTouched(FETCH, 3, 240 + cell, cell);
            dueTouched(KEEP, 255, 16 + cell, cell);
        }
    }

    /** The same sentence: no other operation reads or writes a cell. */
    static void noOtherStepRepairsCells() {
        int[] others = {STOP, SET, ADD, SUB, AND, XOR, HALF, JUMP, ZERO, OUT};
        for (int op : others) {
            for (int n = 0; n < 16; n++) {
                dueTouched(op, n, n, -1);
            }
        }
    }

    /** Behind five steps, when it is the turn of place 5, the operation on register 1 repairs this cell and no other. */
    private static void dueTouched(int op, int n, int s, int cell) {
        ShieldedMachine x = atLastPlace(op, 1, n, 0, 0, 0, s);
        for (int each = 0; each < 16; each++) {
            due("hit", x.hitData(each, 12 - each % 13), true);
        }
        due("run", x.run(1), 1);
        due("spoiled after op " + op, x.spoiled(), cell < 0 ? 16 : 15);
        for (int each = 0; each < 16; each++) {
            due("cell " + each + " repaired by op " + op, x.hitData(each, 0), each == cell);
        }
    }

    /** "behind the step that was done as number k since the very beginning (0 the first ...), the step ... at place k mod 48 is repaired". */
    static void stepsAreRepairedInTurn() {
        int[] numbers = {0, 1, 30, 31, 48, 49, 78, 79, 96, 127, 144};
        for (int k : numbers) {
            dueInTurn(k, k % 48, -1);
        }
    }

    /** "or, when that is 32 or more, the cell k mod 48 - 32". */
    static void cellsAreRepairedInTurn() {
        int[] numbers = {32, 33, 46, 47, 80, 81, 94, 95, 128, 143};
        for (int k : numbers) {
            dueInTurn(k, -1, k % 48 - 32);
        }
    }

    private static void dueInTurn(int k, int step, int cell) {
        ShieldedMachine x = spoiledBehind(k);
        int done = x.place();
        due("step number " + k, x.run(1), 1);
        for (int each = 0; each < 32; each++) {
            due("step " + each + " repaired behind " + k, x.hitProgram(each, 1), each == done || each == step);
        }
        for (int each = 0; each < 16; each++) {
            due("cell " + each + " repaired behind " + k, x.hitData(each, 1), each == cell);
        }
    }

    /** "in turn": one more with each step, until none is left behind 48 steps. */
    static void wholeRoundRepairsAll() {
        ShieldedMachine x = spoiledBehind(0);
        for (int k = 0; k < 48; k++) {
            due("run", x.run(1), 1);
            // the step at place 20 is repaired before its turn, as it is done from number 1 on
            boolean ahead = k >= 1 && k < 20;
            due("spoiled behind " + k, x.spoiled(), ahead ? 46 - k : 47 - k);
        }
    }

    /** A machine that has done k steps, goes round at place 20 behind the first, and has all its code words spoiled. */
    private static ShieldedMachine spoiledBehind(int k) {
        ShieldedMachine x = machine(JUMP, 0, 20);
        x.set(20, JUMP, 0, 20);
        x.run(k < 100 ? k : 100);
        x.run(k < 100 ? 0 : k - 100);
        spoilAll(x);
        return x;
    }

    /** "(... steps at which the machine stops are done too)": the turn comes behind them, and they count for k. */
    static void stepsThatStopAreDoneToo() {
        ShieldedMachine x = new ShieldedMachine();
        due("STOP as number 0", x.run(100), 1);
        for (int k = 1; k < 32; k++) {
            x.reset();
            due("hit", x.hitProgram(k, 3), true);
            due("STOP", x.run(100), 1);
            due("place " + k + " was in turn", x.spoiled(), 0);
        }
        ShieldedMachine y = full();
        // nineteen steps were done: the seventeenth OUT is number 19
        due("hit", y.hitProgram(19, 0), true);
        due("hit", y.hitProgram(20, 0), true);
        due("the seventeenth OUT", y.run(100), 1);
        due("place 19 was in turn", y.hitProgram(19, 0), true);
        due("place 20 was not", y.hitProgram(20, 0), false);
        y.reset();
        due("the next is number 20", y.run(1), 1);
        due("place 20 was in turn", y.hitProgram(20, 0), true);
    }

    /** "since the very beginning": a reset does not begin the count anew. */
    static void resetLeavesTheTurn() {
        ShieldedMachine x = machine(JUMP, 0, 0);
        x.run(33);
        x.reset();
        due("hit", x.hitData(1, 0), true);
        due("hit", x.hitProgram(1, 0), true);
        x.run(1);
        due("number 33 is the turn of cell 1", x.hitData(1, 0), true);
        due("not of place 1", x.hitProgram(1, 0), false);
    }

    /** "the step that was done": calls of run that do none leave the count. */
    static void runsWithoutStepsLeaveTheTurn() {
        ShieldedMachine x = new ShieldedMachine();
        x.run(0);
        x.run(101);
        x.run(-1);
        x.run(1);
        x.run(100);
        x.reset();
        due("hit", x.hitProgram(1, 0), true);
        due("hit", x.hitProgram(2, 0), true);
        x.run(1);
        due("number 1 is the turn of place 1", x.hitProgram(1, 0), true);
        due("not of place 2", x.hitProgram(2, 0), false);
    }

    /** "A hit that could not be made good is refused.": all that are taken, at once and before each step, are made good. */
    static void allHitsTakenAreMadeGood() {
        for (int copy = 0; copy < 3; copy++) {
            ShieldedMachine x = machine(SET, 1, 7, ADD, 0, 1, STORE, 0, 9, OUT, 0, 0, JUMP, 0, 1);
            for (int step = 0; step < 6; step++) {
                for (int place = 0; place < 32; place++) {
                    x.hitProgram(place, (place + step) % 22);
                }
                for (int cell = 0; cell < 16; cell++) {
                    x.hitData(cell, (cell + step) % 13);
                }
                for (int r = 0; r < 4; r++) {
                    due("hit", x.hitRegister(r, (copy + r) % 3, 255), true);
                }
                due("hit", x.hitPlace((copy + step) % 3, 31), true);
                due("hit", x.hitWork(copy, 255), true);
                due("run", x.run(1), 1);
            }
            due("register 0", x.register(0), 14);
            due("register 1", x.register(1), 7);
            due("data", x.data(9), 7);
            due("outs", x.outs(), 1);
            due("out", x.out(0), 7);
            due("place", x.place(), 2);
        }
    }
}

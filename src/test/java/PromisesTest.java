/**
 * Each promise of the document: ordinary inputs, the edges that it names, and wrong inputs.
 * No object gets more than 512 calls, since what comes behind them is free.
 */
public final class PromisesTest extends Steps {
    public static void main(String[] args) {
        promise1();
        promise2();
        promise3();
        promise4Counts();
        promise4Operations();
        promise4Places();
        promise4Outs();
        promise5();
        promise6();
        promise7();
        promise8();
        promise9();
        promise10();
        promises11To16();
        promise17Touched();
        promise17InTurn();
        promise18();
        Check.end();
    }

    private static void promise1() {
        ShieldedMachine x = new ShieldedMachine();
        for (int r = 0; r < 4; r++) {
            due("1: register", x.register(r), 0);
        }
        for (int cell = 0; cell < 16; cell++) {
            due("1: data", x.data(cell), 0);
        }
        due("1: place", x.place(), 0);
        due("1: outs", x.outs(), 0);
        due("1: out", x.out(0), BAD);
        due("1: stopped", x.stopped(), false);
        due("1: spoiled", x.spoiled(), 0);
        for (int place = 1; place < 32; place++) {
            ShieldedMachine y = machine(JUMP, 0, place);
            due("1: steps are STOP", y.run(100), 2);
            due("1: stopped at", y.place(), place);
            due("1: stopped", y.stopped(), true);
        }
    }

    private static void promise2() {
        int[][] wrong = {
            {-1, SET, 0, 9}, {32, SET, 0, 9}, {LOW, SET, 0, 9}, {HIGH, SET, 0, 9},
            {0, -1, 0, 9}, {0, 14, 0, 9}, {0, LOW, 0, 9}, {0, HIGH, 0, 9},
            {0, SET, -1, 9}, {0, SET, 4, 9}, {0, SET, LOW, 9}, {0, SET, HIGH, 9},
            {0, SET, 0, -1}, {0, SET, 0, 256}, {0, SET, 0, LOW}, {0, SET, 0, HIGH}};
        ShieldedMachine x = machine(SET, 2, 77);
        x.hitProgram(0, 4);
        for (int[] each : wrong) {
            due("2: wrong set", x.set(each[0], each[1], each[2], each[3]), false);
        }
        due("2: nothing is repaired", x.spoiled(), 1);
        due("2: nothing is changed", x.run(100), 2);
        due("2: register 2", x.register(2), 77);
        due("2: register 0", x.register(0), 0);
        for (int place = 0; place < 32; place++) {
            ShieldedMachine y = new ShieldedMachine();
            due("2: jump", place == 0 || y.set(0, JUMP, 3, place), true);
            due("2: set", y.set(place, SET, place % 4, 255 - place), true);
            y.run(place == 0 ? 1 : 2);
            due("2: set register", y.register(place % 4), 255 - place);
        }
        ShieldedMachine z = new ShieldedMachine();
        z.run(1);
        due("2: set when stopped", z.set(0, KEEP, 3, 255), true);
        due("2: still stopped", z.stopped(), true);
        due("2: set last place", z.set(31, STOP, 0, 0), true);
    }

    private static void promise3() {
        for (int v = 0; v < 256; v++) {
            ShieldedMachine y = new ShieldedMachine();
            due("3: setData", y.setData(v % 16, v), true);
            due("3: data", y.data(v % 16), v);
        }
        ShieldedMachine x = new ShieldedMachine();
        for (int cell = 0; cell < 16; cell++) {
            x.setData(cell, 240 + cell);
        }
        for (int cell = 0; cell < 16; cell++) {
            due("3: each cell has its own", x.data(cell), 240 + cell);
        }
        x.hitData(0, 3);
        x.hitData(15, 3);
        int[][] wrong = {{-1, 1}, {16, 1}, {LOW, 1}, {HIGH, 1}, {0, -1}, {0, 256}, {15, LOW}, {15, HIGH}};
        for (int[] each : wrong) {
            due("3: wrong setData", x.setData(each[0], each[1]), false);
        }
        due("3: nothing is repaired", x.spoiled(), 2);
        due("3: nothing is changed", x.data(0), 240);
        due("3: nothing is changed", x.data(15), 255);
    }

    private static void promise4Counts() {
        ShieldedMachine x = machine(JUMP, 0, 0);
        due("4: run 0", x.run(0), 0);
        due("4: run 1", x.run(1), 1);
        due("4: run 100", x.run(100), 100);
        due("4: run 101", x.run(101), BAD);
        due("4: run -1", x.run(-1), BAD);
        due("4: run lowest", x.run(LOW), BAD);
        due("4: run highest", x.run(HIGH), BAD);
        due("4: not stopped", x.stopped(), false);
        ShieldedMachine y = machine(SET, 0, 1, SET, 0, 2, SET, 0, 3);
        due("4: run 2", y.run(2), 2);
        due("4: two were done", y.register(0), 2);
        due("4: not stopped", y.stopped(), false);
        due("4: STOP counts", y.run(100), 2);
        due("4: place stays", y.place(), 3);
        due("4: when stopped", y.run(100), 0);
        due("4: BAD when stopped", y.run(101), BAD);
    }

    /** The value of register r after SET r a, SET s b and the operation with register s. */
    private static int combined(int op, int r, int a, int s, int b, int n) {
        ShieldedMachine x = machine(SET, s, b, SET, r, a, op, r, n);
        due("4: three steps", x.run(3), 3);
        due("4: goes on behind", x.place(), 3);
        due("4: s stays", r == s ? b : x.register(s), b);
        return x.register(r);
    }

    private static void promise4Operations() {
        int[] values = {0, 1, 2, 127, 128, 200, 254, 255};
        for (int a : values) {
            for (int b : values) {
                due("4: ADD", combined(ADD, 1, a, 2, b, 2), (a + b) % 256);
                due("4: SUB", combined(SUB, 1, a, 2, b, 254), (a - b + 256) % 256);
                due("4: AND", combined(AND, 0, a, 3, b, 7), a & b);
                due("4: XOR", combined(XOR, 3, a, 0, b, 100), a ^ b);
            }
            due("4: ADD to itself", combined(ADD, 2, a, 2, a, 2), a * 2 % 256);
            due("4: SUB from itself", combined(SUB, 2, a, 2, a, 2), 0);
        }
        for (int cell = 0; cell < 16; cell++) {
            ShieldedMachine x = machine(LOAD, 1, 240 + cell, STORE, 1, 32 + (cell + 1) % 16,
                SET, 3, 48 + cell, FETCH, 2, 255, ADD, 2, 3, SET, 0, 160 + (cell + 2) % 16, KEEP, 2, 4);
            x.setData(cell, 90 + cell);
            due("4: seven steps", x.run(7), 7);
            due("4: LOAD", x.register(1), 90 + cell);
            due("4: STORE", x.data((cell + 1) % 16), 90 + cell);
            due("4: FETCH, ADD", x.register(2), 138 + 2 * cell);
            due("4: KEEP", x.data((cell + 2) % 16), 138 + 2 * cell);
            due("4: read cell stays", x.data(cell), 90 + cell);
            due("4: goes on behind", x.place(), 7);
        }
    }

    private static void promise4Places() {
        for (int n = 0; n < 256; n++) {
            ShieldedMachine x = machine(JUMP, 0, n);
            x.run(1);
            due("4: JUMP", x.place(), n % 32);
            ShieldedMachine y = machine(ZERO, 2, n);
            y.run(1);
            due("4: ZERO of 0", y.place(), n % 32);
            ShieldedMachine z = machine(SET, 2, 255 - n / 2, ZERO, 2, n);
            z.run(2);
            due("4: ZERO of another", z.place(), 2);
        }
        ShieldedMachine x = machine(JUMP, 0, 31);
        x.set(31, SET, 0, 8);
        due("4: over the end", x.run(2), 2);
        due("4: place behind 31", x.place(), 0);
        ShieldedMachine y = machine(SET, 0, 1, JUMP, 0, 31);
        y.set(31, ZERO, 0, 9);
        y.run(3);
        due("4: ZERO over the end", y.place(), 0);
    }

    private static void promise4Outs() {
        ShieldedMachine x = machine(SET, 1, 3, ADD, 0, 1, OUT, 0, 0, JUMP, 0, 1);
        due("4: sixteen rounds", x.run(49), 49);
        due("4: not stopped by the sixteenth", x.stopped(), false);
        due("4: sixteen outs", x.outs(), 16);
        due("4: seventeenth OUT", x.run(100), 2);
        due("4: stopped", x.stopped(), true);
        due("4: place stays", x.place(), 2);
        due("4: it is not put out", x.outs(), 16);
        for (int i = 0; i < 16; i++) {
            due("4: out", x.out(i), 3 * (i + 1));
        }
        due("4: no out 16", x.out(16), BAD);
    }

    private static void promise5() {
        ShieldedMachine x = machine(SET, 0, 1, SET, 1, 2, SET, 2, 3, SET, 3, 4, OUT, 3, 0, STORE, 2, 5);
        due("5: run", x.run(100), 7);
        x.hitProgram(20, 1);
        x.hitData(5, 1);
        for (int slot = 0; slot < 4; slot++) {
            x.hitRegister(slot, 0, 255);
        }
        x.hitPlace(0, 31);
        x.hitWork(0, 255);
        x.reset();
        for (int r = 0; r < 4; r++) {
            due("5: register", x.register(r), 0);
            due("5: register hits are forgotten", x.hitRegister(r, 1, 255), true);
            due("5: register", x.register(r), 0);
        }
        due("5: place", x.place(), 0);
        due("5: place hits are forgotten", x.hitPlace(1, 31), true);
        due("5: place", x.place(), 0);
        due("5: work hits are forgotten", x.hitWork(1, 255), true);
        due("5: outs", x.outs(), 0);
        due("5: out", x.out(0), BAD);
        due("5: not stopped", x.stopped(), false);
        due("5: nothing is repaired", x.spoiled(), 2);
        due("5: data stays", x.data(5), 3);
        due("5: the program stays", x.run(100), 7);
        due("5: register 0", x.register(0), 1);
        due("5: out 0", x.out(0), 4);
        due("5: outs", x.outs(), 1);
        // steps 0 .. 13 were done, so the turn goes on with place 14, not with place 0
        x.reset();
        x.hitProgram(14, 0);
        x.hitProgram(20, 0);
        x.run(1);
        due("5: the turn goes on", x.hitProgram(14, 0), true);
        due("5: other stays spoiled", x.hitProgram(20, 0), false);
    }

    private static void promise6() {
        ShieldedMachine x = machine(SET, 0, 0, SET, 1, 85, SET, 2, 170, SET, 3, 255, JUMP, 0, 4);
        int[] values = {0, 85, 170, 255};
        x.run(4);
        int[][] wrong = {
            {-1, 0, 1}, {4, 0, 1}, {5, 0, 1}, {LOW, 0, 1}, {HIGH, 0, 1},
            {0, -1, 1}, {0, 3, 1}, {0, LOW, 1}, {0, HIGH, 1},
            {0, 0, 0}, {0, 0, 256}, {0, 0, -1}, {0, 0, LOW}, {0, 0, HIGH}};
        for (int[] each : wrong) {
            due("6: wrong hit", x.hitRegister(each[0], each[1], each[2]), false);
        }
        for (int mask = 1; mask < 256; mask++) {
            ShieldedMachine y = machine(SET, 0, 0, SET, 1, 85, SET, 2, 170, SET, 3, 255, JUMP, 0, 4);
            y.run(4);
            for (int r = 0; r < 4; r++) {
                for (int copy = 0; copy < 3; copy++) {
                    due("6: hit", y.hitRegister(r, copy, mask), true);
                    due("6: other copy", y.hitRegister(r, (copy + 1) % 3, mask), false);
                    due("6: other copy", y.hitRegister(r, (copy + 2) % 3, mask), false);
                    due("6: value", y.register(r), values[r]);
                    due("6: a step heals all registers", y.run(1), 1);
                }
                due("6: value", y.register(r), values[r]);
            }
        }
        due("6: the wrong ones were no hits", x.hitRegister(0, 2, 255), true);
        due("6: same copy again", x.hitRegister(0, 2, 255), true);
        due("6: turned back is hit all the same", x.hitRegister(0, 1, 1), false);
        due("6: run 0 does no step", x.run(0), 0);
        due("6: still hit", x.hitRegister(0, 1, 1), false);
        for (int r = 1; r < 4; r++) {
            due("6: other registers", x.hitRegister(r, r - 1, 255), true);
        }
        ShieldedMachine z = new ShieldedMachine();
        due("6: hit", z.hitRegister(3, 0, 9), true);
        due("6: the STOP is done too", z.run(1), 1);
        due("6: after STOP", z.hitRegister(3, 1, 9), true);
        due("6: no more steps", z.run(1), 0);
        due("6: so still hit", z.hitRegister(3, 2, 9), false);
        due("6: value", z.register(3), 0);
    }

    private static void promise7() {
        ShieldedMachine w = new ShieldedMachine();
        int[][] wrong = {{-1, 1}, {3, 1}, {LOW, 1}, {HIGH, 1}, {0, 0}, {0, 32}, {0, -1}, {0, LOW}, {0, HIGH}};
        for (int[] each : wrong) {
            due("7: wrong hit", w.hitPlace(each[0], each[1]), false);
        }
        due("7: the wrong ones were no hits", w.hitPlace(2, 1), true);
        for (int mask = 1; mask < 32; mask++) {
            ShieldedMachine x = machine(JUMP, 0, 21);
            x.set(21, JUMP, 0, 21);
            x.run(1);
            for (int copy = 0; copy < 3; copy++) {
                due("7: hit", x.hitPlace(copy, mask), true);
                due("7: other copy", x.hitPlace((copy + 1) % 3, mask), false);
                due("7: other copy", x.hitPlace((copy + 2) % 3, mask), false);
                due("7: place", x.place(), 21);
                due("7: run", x.run(1), 1);
                due("7: place", x.place(), 21);
            }
        }
        ShieldedMachine y = new ShieldedMachine();
        due("7: hit", y.hitPlace(1, 5), true);
        due("7: same copy again", y.hitPlace(1, 5), true);
        due("7: turned back is hit all the same", y.hitPlace(0, 5), false);
        due("7: a register is another thing", y.hitRegister(0, 0, 5), true);
        due("7: STOP", y.run(1), 1);
        due("7: place stays", y.place(), 0);
        due("7: after STOP", y.hitPlace(2, 31), true);
        due("7: place", y.place(), 0);
    }

    private static void promise8() {
        ShieldedMachine w = new ShieldedMachine();
        int[][] wrong = {{-1, 1}, {3, 1}, {LOW, 1}, {HIGH, 1}, {0, 0}, {0, 256}, {0, -1}, {0, LOW}, {0, HIGH}};
        for (int[] each : wrong) {
            due("8: wrong hit", w.hitWork(each[0], each[1]), false);
        }
        due("8: hit", w.hitWork(2, 9), true);
        due("8: same again", w.hitWork(2, 9), true);
        due("8: turned back is hit all the same", w.hitWork(0, 1), false);
        due("8: run 0 does no step", w.run(0), 0);
        due("8: still hit", w.hitWork(1, 1), false);
        due("8: STOP is a step", w.run(1), 1);
        due("8: after STOP", w.hitWork(1, 1), true);
        for (int op = 0; op <= 13; op++) {
            for (int copy = 0; copy < 3; copy++) {
                for (int mask = 1; mask < 256; mask++) {
                    workHit(op, copy, mask);
                }
            }
        }
    }

    /** Does one step with work, place and all registers hit in all different ways, and looks at everything. */
    private static void workHit(int op, int copy, int mask) {
        ShieldedMachine x = machine(SET, 0, 33, SET, 1, 202, SET, 2, 7, op, 1, 6, STOP, 0, 0);
        PlainMachine y = new PlainMachine();
        int[][] steps = {{SET, 0, 33}, {SET, 1, 202}, {SET, 2, 7}, {op, 1, 6}};
        for (int place = 0; place < 4; place++) {
            y.set(place, steps[place][0], steps[place][1], steps[place][2]);
        }
        x.setData(6, 150);
        y.setData(6, 150);
        x.setData(7, 151);
        y.setData(7, 151);
        x.run(3);
        y.run(3);
        due("8: hit", x.hitWork(copy, mask), true);
        due("8: other one", x.hitWork((copy + 1) % 3, mask), false);
        due("8: other one", x.hitWork((copy + 2) % 3, mask), false);
        for (int r = 0; r < 4; r++) {
            x.hitRegister(r, (copy + r) % 3, mask);
        }
        x.hitPlace((copy + 1) % 3, mask % 31 + 1);
        due("8: run", x.run(1), y.run(1));
        for (int r = 0; r < 4; r++) {
            due("8: register after op " + op, x.register(r), y.register(r));
        }
        for (int cell = 0; cell < 16; cell++) {
            due("8: data after op " + op, x.data(cell), y.cell(cell));
        }
        due("8: place after op " + op, x.place(), y.at);
        due("8: outs after op " + op, x.outs(), y.put.size());
        due("8: out after op " + op, x.out(0), y.out(0));
        due("8: stopped after op " + op, x.stopped(), y.halted);
        due("8: the next step's work", x.hitWork((copy + 1) % 3, mask), true);
    }

    private static void promise9() {
        ShieldedMachine x = new ShieldedMachine();
        int[][] wrong = {{-1, 0}, {16, 0}, {LOW, 0}, {HIGH, 0}, {0, -1}, {0, 13}, {0, LOW}, {0, HIGH}};
        for (int[] each : wrong) {
            due("9: wrong hit", x.hitData(each[0], each[1]), false);
        }
        due("9: nothing is spoiled", x.spoiled(), 0);
        for (int v = 0; v < 256; v++) {
            ShieldedMachine y = new ShieldedMachine();
            int cell = v % 16;
            for (int bit = 0; bit < 13; bit++) {
                due("9: setData", y.setData(cell, v), true);
                due("9: hit", y.hitData(cell, bit), true);
                due("9: spoiled, same bit", y.hitData(cell, bit), false);
                due("9: spoiled, other bit", y.hitData(cell, (bit + 1) % 13), false);
                due("9: value", y.data(cell), v);
                due("9: data does not repair", y.hitData(cell, bit), false);
            }
        }
        for (int cell = 0; cell < 16; cell++) {
            x.hitData(cell, cell % 13);
        }
        due("9: all are spoiled", x.spoiled(), 16);
        x.reset();
        due("9: reset repairs nothing", x.spoiled(), 16);
        for (int bit = 0; bit < 13; bit++) {
            ShieldedMachine y = machine(LOAD, 0, 9, LOAD, 1, 9);
            y.setData(9, 180 + bit);
            y.hitData(9, bit);
            y.run(1);
            due("9: loaded", y.register(0), 180 + bit);
            due("9: repaired, so hit again", y.hitData(9, 12 - bit), true);
            y.run(1);
            due("9: loaded", y.register(1), 180 + bit);
            due("9: value", y.data(9), 180 + bit);
        }
    }

    private static void promise10() {
        ShieldedMachine x = new ShieldedMachine();
        int[][] wrong = {{-1, 0}, {32, 0}, {LOW, 0}, {HIGH, 0}, {0, -1}, {0, 22}, {0, LOW}, {0, HIGH}};
        for (int[] each : wrong) {
            due("10: wrong hit", x.hitProgram(each[0], each[1]), false);
        }
        due("10: nothing is spoiled", x.spoiled(), 0);
        for (int bit = 0; bit < 22; bit++) {
            ShieldedMachine y = new ShieldedMachine();
            for (int place = 0; place < 32; place++) {
                y.set(place, place % 14, place % 4, place * 8);
                due("10: hit", y.hitProgram(place, bit), true);
                due("10: spoiled, same bit", y.hitProgram(place, bit), false);
                due("10: spoiled, other bit", y.hitProgram(place, (bit + 1) % 22), false);
                due("10: spoiled", y.spoiled(), place + 1);
            }
            for (int place = 0; place < 32; place++) {
                y.set(place, place % 14, place % 4, place * 8);
                due("10: only this one is repaired", y.spoiled(), 31 - place);
            }
        }
        for (int n = 0; n < 256; n++) {
            for (int bit = 0; bit < 22; bit++) {
                hitStep(n, bit);
            }
        }
    }

    private static void hitStep(int n, int bit) {
        int r = n % 4;
        ShieldedMachine y = machine(SET, r, n, XOR, r, r, ZERO, r, 29);
        y.set(29, OUT, (r + 1) % 4, n);
        y.set(30, JUMP, 0, 0);
        y.hitProgram(0, bit);
        y.hitProgram(1, bit);
        y.hitProgram(2, bit);
        y.hitProgram(29, bit);
        y.hitProgram(30, bit);
        y.run(1);
        due("10: SET", y.register(r), n);
        due("10: repaired, so hit again", y.hitProgram(0, 21 - bit), true);
        y.run(1);
        due("10: XOR", y.register(r), 0);
        y.run(1);
        due("10: ZERO", y.place(), 29);
        y.run(2);
        due("10: OUT", y.out(0), 0);
        due("10: JUMP", y.place(), 0);
        y.run(1);
        due("10: SET again", y.register(r), n);
        due("10: not stopped", y.stopped(), false);
    }

    private static void promises11To16() {
        ShieldedMachine x = machine(SET, 0, 11, SET, 1, 12, SET, 2, 13, SET, 3, 255, OUT, 3, 0, OUT, 0, 0, STORE, 1, 15);
        due("12: place", x.place(), 0);
        due("16: not stopped", x.stopped(), false);
        x.run(4);
        due("12: place", x.place(), 4);
        due("14: none", x.outs(), 0);
        due("15: none", x.out(0), BAD);
        due("16: not stopped", x.stopped(), false);
        x.run(1);
        due("14: one", x.outs(), 1);
        due("15: the first", x.out(0), 255);
        due("15: no second", x.out(1), BAD);
        x.run(2);
        due("11: register 0", x.register(0), 11);
        due("11: register 1", x.register(1), 12);
        due("11: register 2", x.register(2), 13);
        due("11: register 3", x.register(3), 255);
        due("13: data", x.data(15), 12);
        due("13: data", x.data(0), 0);
        due("14: two", x.outs(), 2);
        due("15: the second", x.out(1), 11);
        due("16: not stopped", x.stopped(), false);
        x.run(1);
        due("16: stopped", x.stopped(), true);
        due("12: place", x.place(), 7);
        int[] wrong = {-1, -2, 16, 17, 32, LOW, HIGH};
        for (int each : wrong) {
            due("11: no register", x.register(each), BAD);
            due("13: no cell", x.data(each), BAD);
            due("15: no out", x.out(each), BAD);
        }
        due("11: no register 4", x.register(4), BAD);
        due("11: no register 5", x.register(5), BAD);
        due("15: no out 2", x.out(2), BAD);
        x.reset();
        due("15: forgotten", x.out(0), BAD);
    }

    /** What is repaired by being set, done, read or written, and that nothing else is. */
    private static void promise17Touched() {
        for (int op = 0; op <= 13; op++) {
            for (int cell = 0; cell < 16; cell++) {
                boolean direct = op == LOAD || op == STORE;
                boolean throughRegister = op == FETCH || op == KEEP;
                touchOnce(op, direct ? 16 + cell : 2, cell, direct || throughRegister);
            }
        }
        ShieldedMachine x = new ShieldedMachine();
        for (int cell = 0; cell < 16; cell++) {
            x.hitData(cell, cell % 13);
            x.hitProgram(cell, cell);
        }
        due("17: spoiled", x.spoiled(), 32);
        x.setData(7, 3);
        due("17: one cell repaired", x.spoiled(), 31);
        due("17: this cell", x.hitData(7, 0), true);
        due("17: not this step", x.hitProgram(7, 0), false);
        x.set(7, 1, 1, 1);
        due("17: one step repaired", x.spoiled(), 31);
        due("17: this step", x.hitProgram(7, 0), true);
        due("17: not this cell", x.hitData(7, 0), false);
        x.run(0);
        due("17: run 0 repairs nothing", x.spoiled(), 32);
    }

    /** Step number 2 is the operation on register 2, which names the cell, while all cells are spoiled. */
    private static void touchOnce(int op, int n, int cell, boolean touches) {
        ShieldedMachine x = machine(SET, 2, 32 + cell, JUMP, 0, 31);
        x.set(31, op, 2, n);
        x.run(2);
        for (int each = 0; each < 16; each++) {
            x.hitData(each, (each + cell) % 13);
        }
        x.hitProgram(1, cell);
        x.hitProgram(31, cell);
        due("17: the step is done", x.run(1), 1);
        due("17: spoiled after op " + op, x.spoiled(), touches ? 16 : 17);
        for (int each = 0; each < 16; each++) {
            due("17: cell after op " + op, x.hitData(each, 0), touches && each == cell);
        }
        due("17: the step that is done", x.hitProgram(31, 0), true);
        due("17: not another one", x.hitProgram(1, 0), false);
    }

    /** Three rounds with everything spoiled before each step: just the step done and the one in turn are repaired. */
    private static void promise17InTurn() {
        for (int first = 0; first < 144; first++) {
            ShieldedMachine x = machine(JUMP, 0, 0);
            x.run(first < 100 ? first : 100);
            x.run(first < 100 ? 0 : first - 100);
            for (int place = 0; place < 32; place++) {
                x.hitProgram(place, (place + first) % 22);
            }
            for (int cell = 0; cell < 16; cell++) {
                x.hitData(cell, (cell + first) % 13);
            }
            due("17: all spoiled", x.spoiled(), 48);
            due("17: one step", x.run(1), 1);
            int turn = first % 48;
            due("17: still spoiled", x.spoiled(), turn == 0 ? 47 : 46);
            for (int place = 0; place < 32; place++) {
                due("17: step in turn", x.hitProgram(place, 0), place == 0 || place == turn);
            }
            for (int cell = 0; cell < 16; cell++) {
                due("17: cell in turn", x.hitData(cell, 0), cell + 32 == turn);
            }
        }
        // steps at which the machine stops are counted, calls of run that do none are not
        ShieldedMachine x = new ShieldedMachine();
        for (int i = 0; i < 10; i++) {
            due("17: STOP", x.run(5), 1);
            due("17: nothing", x.run(5), 0);
            x.reset();
        }
        x.hitProgram(9, 0);
        x.hitProgram(10, 0);
        x.hitProgram(11, 0);
        x.run(5);
        due("17: place 10 in turn", x.hitProgram(10, 0), true);
        due("17: spoiled", x.spoiled(), 3);
    }

    private static void promise18() {
        for (int v = 0; v < 256; v++) {
            ShieldedMachine x = machine(SET, v % 4, v, HALF, v % 4, 255 - v);
            x.run(2);
            due("18: HALF", x.register(v % 4), v / 2);
            due("18: goes on behind", x.place(), 2);
        }
    }
}

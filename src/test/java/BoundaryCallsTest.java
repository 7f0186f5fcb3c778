/**
 * The boundary cases that the promises 1 to 18 name: for each sentence, or part of one that stands for
 * itself, a test of its own, with the words of the document above it.
 */
public final class BoundaryCallsTest extends Steps {
    public static void main(String[] args) {
        Check.runAll(BoundaryCallsTest.class);
        Check.end();
    }

    // ---- Promise 1: a new object ----

    /** "`ShieldedMachine()`: As said above.": for each new object, whatever was done with those before it. */
    static void promise1EachObjectIsNew() {
        String first = looks(new ShieldedMachine());
        ShieldedMachine x = machine(SET, 3, 9, OUT, 3, 0, STORE, 3, 4);
        x.hitProgram(30, 0);
        x.hitRegister(0, 0, 1);
        x.hitPlace(0, 1);
        x.hitWork(0, 1);
        x.run(100);
        x.hitRegister(1, 0, 1);
        x.hitPlace(0, 1);
        x.hitWork(0, 1);
        ShieldedMachine y = new ShieldedMachine();
        due("a second object", looks(y), first);
        due("its register 1 was not hit", y.hitRegister(1, 1, 1), true);
        due("its place was not hit", y.hitPlace(1, 1), true);
        due("its work was not hit", y.hitWork(1, 1), true);
        due("its steps are STOP", y.run(100), 1);
    }

    // ---- Promise 2: set ----

    /** "Sets the step at a place and answers true": with the least and the greatest of each number. */
    static void promise2TakesTheEdges() {
        int[] places = {0, 31};
        int[] ops = {0, 13};
        int[] registers = {0, 3};
        int[] numbers = {0, 255};
        for (int place : places) {
            for (int op : ops) {
                for (int r : registers) {
                    for (int n : numbers) {
                        due("set(" + place + ", " + op + ", " + r + ", " + n + ")",
                            new ShieldedMachine().set(place, op, r, n), true);
                    }
                }
            }
        }
        ShieldedMachine x = machine(JUMP, 0, 31);
        due("KEEP 3 255 at place 31", x.set(31, KEEP, 3, 255), true);
        due("SET 3 255 at place 0", x.set(0, SET, 3, 255), true);
        due("JUMP 3 255 at place 1", x.set(1, JUMP, 3, 255), true);
        due("run", x.run(3), 3);
        due("255 is kept in cell 15", x.data(15), 255);
        due("place behind 31", x.place(), 0);
    }

    /** "false, changing nothing, when place is not 0 .. 31". */
    static void promise2PlaceOutOfRange() {
        int[] wrong = {-1, 32, 33, 63, 64, -32, 256, LOW, HIGH};
        for (int each : wrong) {
            refusedSet(each, SET, 0, 9);
        }
    }

    /** "... op not 0 .. 13". */
    static void promise2OperationOutOfRange() {
        int[] wrong = {-1, 14, 15, 16, 17, -16, LOW, HIGH};
        for (int each : wrong) {
            refusedSet(0, each, 0, 9);
            refusedSet(31, each, 3, 9);
        }
    }

    /** "... r not 0 .. 3". */
    static void promise2RegisterOutOfRange() {
        int[] wrong = {-1, 4, 5, 7, 8, -4, LOW, HIGH};
        for (int each : wrong) {
            refusedSet(0, SET, each, 9);
            refusedSet(31, STOP, each, 9);
        }
    }

    /** "... or n not 0 .. 255". */
    static void promise2NumberOutOfRange() {
        int[] wrong = {-1, 256, 257, 511, 512, -256, LOW, HIGH};
        for (int each : wrong) {
            refusedSet(0, SET, 0, each);
            refusedSet(31, STOP, 3, each);
        }
    }

    /** The program is full of steps of its own, all of them spoiled; a refused set leaves each as it was. */
    private static void refusedSet(int place, int op, int r, int n) {
        ShieldedMachine x = new ShieldedMachine();
        for (int each = 0; each < 32; each++) {
            x.set(each, SET, each % 4, 100 + each);
            x.hitProgram(each, each % 22);
        }
        String before = looks(x);
        String call = "set(" + place + ", " + op + ", " + r + ", " + n + ")";
        due(call, x.set(place, op, r, n), false);
        due("behind " + call, looks(x), before);
        for (int each = 0; each < 32; each++) {
            due("none was repaired by " + call, x.hitProgram(each, 0), false);
        }
        for (int each = 0; each < 32; each++) {
            due("run behind " + call, x.run(1), 1);
            due("step " + each + " behind " + call, x.register(each % 4), 100 + each);
        }
    }

    /** "Sets the step ... and answers true": of a machine that is stopped too, and it stays so. */
    static void promise2WhenStopped() {
        ShieldedMachine x = new ShieldedMachine();
        x.run(1);
        due("set", x.set(0, SET, 2, 255), true);
        due("still stopped", x.stopped(), true);
        due("no step is done", x.run(100), 0);
        x.reset();
        due("the new step and STOP", x.run(100), 2);
        due("register 2", x.register(2), 255);
    }

    // ---- Promise 3: setData ----

    /** "Gives a cell a value and answers true": the first and the last, the least and the greatest. */
    static void promise3TakesTheEdges() {
        ShieldedMachine x = new ShieldedMachine();
        due("setData(0, 255)", x.setData(0, 255), true);
        due("setData(15, 254)", x.setData(15, 254), true);
        due("cell 0", x.data(0), 255);
        due("cell 15", x.data(15), 254);
        due("setData(0, 0)", x.setData(0, 0), true);
        due("setData(15, 0)", x.setData(15, 0), true);
        due("cell 0", x.data(0), 0);
        due("cell 15", x.data(15), 0);
    }

    /** "false when cell is not 0 .. 15". */
    static void promise3CellOutOfRange() {
        int[] wrong = {-1, 16, 17, 31, 32, -16, 256, LOW, HIGH};
        for (int each : wrong) {
            refusedSetData(each, 9);
        }
    }

    /** "... or v not 0 .. 255". */
    static void promise3ValueOutOfRange() {
        int[] wrong = {-1, 256, 257, 511, -256, LOW, HIGH};
        for (int each : wrong) {
            refusedSetData(0, each);
            refusedSetData(15, each);
        }
    }

    private static void refusedSetData(int cell, int v) {
        ShieldedMachine x = new ShieldedMachine();
        for (int each = 0; each < 16; each++) {
            x.setData(each, 200 + each);
            x.hitData(each, each % 13);
        }
        String before = looks(x);
        String call = "setData(" + cell + ", " + v + ")";
        due(call, x.setData(cell, v), false);
        due("behind " + call, looks(x), before);
        for (int each = 0; each < 16; each++) {
            due("none was repaired by " + call, x.hitData(each, 0), false);
        }
        due("steps stay STOP behind " + call, x.run(1), 1);
        due("stopped", x.stopped(), true);
    }

    // ---- Promise 4: run ----

    /** "Does steps until n (0 .. 100) have been done": none for 0. */
    static void promise4RunOfNone() {
        ShieldedMachine x = machine(SET, 0, 5);
        String before = looks(x);
        due("run(0)", x.run(0), 0);
        due("nothing was done", looks(x), before);
        ShieldedMachine y = new ShieldedMachine();
        due("run(0) at a STOP", y.run(0), 0);
        due("not stopped", y.stopped(), false);
    }

    /** "until n (0 .. 100) have been done": one for 1, a hundred for 100. */
    static void promise4RunOfOneAndOfMost() {
        ShieldedMachine x = machine(SET, 1, 1, ADD, 0, 1, JUMP, 0, 1);
        due("run(1)", x.run(1), 1);
        due("SET was done", x.register(1), 1);
        due("place", x.place(), 1);
        due("run(99)", x.run(99), 99);
        due("fifty ADDs", x.register(0), 50);
        due("place", x.place(), 2);
        due("run(100)", x.run(100), 100);
        due("a hundred ADDs", x.register(0), 100);
        due("not stopped", x.stopped(), false);
    }

    /** "or the machine is stopped, and answers how many were done": the step that stops it is one of them. */
    static void promise4StopsOnTheWay() {
        for (int n = 2; n <= 5; n++) {
            ShieldedMachine x = machine(SET, 0, 1, SET, 0, 2, SET, 0, 3);
            due("run(" + n + ")", x.run(n), n < 4 ? n : 4);
            due("stopped by run(" + n + ")", x.stopped(), n >= 4);
            due("place", x.place(), n < 4 ? n : 3);
        }
    }

    /** "or the machine is stopped": when it is already, none is done. */
    static void promise4StoppedAlready() {
        ShieldedMachine x = new ShieldedMachine();
        due("STOP", x.run(100), 1);
        x.set(0, SET, 0, 1);
        String before = looks(x);
        due("run(0)", x.run(0), 0);
        due("run(1)", x.run(1), 0);
        due("run(100)", x.run(100), 0);
        due("nothing was done", looks(x), before);
    }

    /** "BAD when n is out of range.": and no step is done. */
    static void promise4NumberOutOfRange() {
        int[] wrong = {-1, 101, 102, 127, 128, 255, 256, -100, LOW, HIGH};
        for (int each : wrong) {
            ShieldedMachine x = machine(SET, 0, 5, OUT, 0, 0);
            x.hitRegister(2, 0, 1);
            String before = looks(x);
            due("run(" + each + ")", x.run(each), BAD);
            due("behind run(" + each + ")", looks(x), before);
            due("no step was done", x.hitRegister(2, 1, 1), false);
            ShieldedMachine y = new ShieldedMachine();
            y.run(1);
            due("stopped, run(" + each + ")", y.run(each), BAD);
        }
    }

    // ---- Promise 5: reset ----

    /** "Registers and place become 0, what was put out is forgotten, and the machine is not stopped". */
    static void promise5BackToZero() {
        String first = looks(new ShieldedMachine());
        ShieldedMachine x = machine(SET, 0, 255, SET, 1, 1, SET, 2, 128, SET, 3, 254, OUT, 0, 0, JUMP, 0, 31);
        x.run(100);
        due("place", x.place(), 31);
        due("stopped", x.stopped(), true);
        x.reset();
        due("behind reset", looks(x), first);
        due("it runs again", x.run(100), 7);
        due("out", x.out(0), 255);
    }

    /** The same of a full list, at which the machine was stopped. */
    static void promise5EmptiesTheFullList() {
        ShieldedMachine x = machine(OUT, 0, 0, JUMP, 0, 0);
        due("until the seventeenth OUT", x.run(100), 33);
        x.reset();
        due("outs", x.outs(), 0);
        due("out(0)", x.out(0), BAD);
        due("out(15)", x.out(15), BAD);
        due("not stopped", x.stopped(), false);
        due("it is full again", x.run(100), 33);
        due("outs", x.outs(), 16);
    }

    /** The same of a new object, and twice: nothing changes. */
    static void promise5OfANewObject() {
        ShieldedMachine x = new ShieldedMachine();
        String first = looks(x);
        x.reset();
        due("behind reset", looks(x), first);
        x.reset();
        due("behind another", looks(x), first);
        due("STOP", x.run(100), 1);
    }

    /** What reset does not name stays: cells, steps, and which of them are spoiled. */
    static void promise5LeavesCellsAndSteps() {
        ShieldedMachine x = machine(SET, 0, 77);
        x.setData(0, 1);
        x.setData(15, 255);
        x.hitData(15, 12);
        x.hitProgram(0, 21);
        x.reset();
        due("cell 0", x.data(0), 1);
        due("cell 15", x.data(15), 255);
        due("spoiled", x.spoiled(), 2);
        due("cell 15 is spoiled", x.hitData(15, 0), false);
        due("step 0 is spoiled", x.hitProgram(0, 0), false);
        due("SET and STOP", x.run(100), 2);
        due("register 0", x.register(0), 77);
    }

    /** "hits of registers ... are forgotten". */
    static void promise5ForgetsRegisterHits() {
        for (int r = 0; r < 4; r++) {
            ShieldedMachine x = readyToAdd();
            due("hit", x.hitRegister(r, 0, 255), true);
            due("another copy", x.hitRegister(r, 1, 255), false);
            x.reset();
            due("register", x.register(r), 0);
            due("another copy behind reset", x.hitRegister(r, 1, 255), true);
            due("register", x.register(r), 0);
            due("the first copy now", x.hitRegister(r, 0, 255), false);
        }
    }

    /** "hits of ... the place ... are forgotten". */
    static void promise5ForgetsPlaceHits() {
        ShieldedMachine x = readyToAdd();
        due("hit", x.hitPlace(2, 31), true);
        due("another copy", x.hitPlace(0, 31), false);
        x.reset();
        due("place", x.place(), 0);
        due("another copy behind reset", x.hitPlace(0, 31), true);
        due("place", x.place(), 0);
        due("the first copy now", x.hitPlace(2, 31), false);
    }

    /** "hits of ... the work of the next step are forgotten". */
    static void promise5ForgetsWorkHits() {
        ShieldedMachine x = readyToAdd();
        due("hit", x.hitWork(1, 255), true);
        due("another one", x.hitWork(2, 255), false);
        x.reset();
        due("another one behind reset", x.hitWork(2, 255), true);
        due("SET", x.run(1), 1);
        due("register 0", x.register(0), 11);
    }

    // ---- Promise 6: hitRegister ----

    /** A machine with 11, 22, 33 and 44 in its registers, about to add register 1 to register 0. */
    private static ShieldedMachine readyToAdd() {
        ShieldedMachine x = machine(SET, 0, 11, SET, 1, 22, SET, 2, 33, SET, 3, 44, ADD, 0, 1);
        due("steps before", x.run(4), 4);
        return x;
    }

    private static void dueAdded(ShieldedMachine x) {
        due("ADD", x.run(1), 1);
        due("register 0", x.register(0), 33);
        due("register 1", x.register(1), 22);
        due("register 2", x.register(2), 33);
        due("register 3", x.register(3), 44);
        due("place", x.place(), 5);
        due("STOP", x.run(100), 1);
        due("stopped", x.stopped(), true);
    }

    /** That nothing was hit so far: all that is kept three times takes a hit of this copy, and nothing is seen of it. */
    private static void dueUnhit(String behind, ShieldedMachine x, int copy) {
        String before = looks(x);
        for (int r = 0; r < 4; r++) {
            due("register " + r + " takes a hit behind " + behind, x.hitRegister(r, copy, 255), true);
        }
        due("the place takes a hit behind " + behind, x.hitPlace(copy, 31), true);
        due("the work takes a hit behind " + behind, x.hitWork(copy, 255), true);
        due("nothing is seen of the hits behind " + behind, looks(x), before);
        dueAdded(x);
    }

    private static void refusedRegisterHit(int r, int copy, int mask) {
        String call = "hitRegister(" + r + ", " + copy + ", " + mask + ")";
        for (int free = 0; free < 3; free++) {
            ShieldedMachine x = readyToAdd();
            String before = looks(x);
            due(call, x.hitRegister(r, copy, mask), false);
            due("behind " + call, looks(x), before);
            dueUnhit(call, x, free);
        }
    }

    /** "Turns the bits of mask (1 .. 255) over in copy 0, 1 or 2 of a register, and answers true". */
    static void promise6TakesTheEdges() {
        int[] masks = {1, 2, 128, 254, 255};
        for (int r = 0; r < 4; r++) {
            for (int copy = 0; copy < 3; copy++) {
                for (int mask : masks) {
                    ShieldedMachine x = readyToAdd();
                    String before = looks(x);
                    due("hitRegister(" + r + ", " + copy + ", " + mask + ")", x.hitRegister(r, copy, mask), true);
                    due("nothing is seen of it", looks(x), before);
                    dueAdded(x);
                }
            }
        }
    }

    /** "false, changing nothing, when something is out of range": the register. */
    static void promise6RegisterOutOfRange() {
        int[] wrong = {-1, 4, 5, 6, 7, 8, -4, LOW, HIGH};
        for (int each : wrong) {
            refusedRegisterHit(each, 0, 1);
            refusedRegisterHit(each, 2, 255);
        }
    }

    /** "... out of range": the copy. */
    static void promise6CopyOutOfRange() {
        int[] wrong = {-1, 3, 4, -3, LOW, HIGH};
        for (int each : wrong) {
            for (int r = 0; r < 4; r++) {
                refusedRegisterHit(r, each, 1);
                refusedRegisterHit(r, each, 255);
            }
        }
    }

    /** "... out of range": the mask, of which 0 turns nothing over and 256 is beside the byte. */
    static void promise6MaskOutOfRange() {
        int[] wrong = {0, 256, 257, 511, -1, -255, LOW, HIGH};
        for (int each : wrong) {
            for (int r = 0; r < 4; r++) {
                refusedRegisterHit(r, 0, each);
                refusedRegisterHit(r, 2, each);
            }
        }
    }

    /** "false, changing nothing, when ... another copy of this register was hit since the last step was done." */
    static void promise6AnotherCopy() {
        for (int r = 0; r < 4; r++) {
            for (int copy = 0; copy < 3; copy++) {
                for (int further = 1; further < 3; further++) {
                    ShieldedMachine x = readyToAdd();
                    String before = looks(x);
                    int other = (copy + further) % 3;
                    due("hit", x.hitRegister(r, copy, 129), true);
                    due("another copy", x.hitRegister(r, other, 129), false);
                    due("another copy, another bit", x.hitRegister(r, other, 2), false);
                    due("nothing is changed", looks(x), before);
                    due("the same copy is still the one", x.hitRegister(r, copy, 4), true);
                    due("nothing is seen", looks(x), before);
                    dueAdded(x);
                }
            }
        }
    }

    /** "another copy": the same one is hit as often as one likes, even back to what it was, and stays the one. */
    static void promise6SameCopyAgain() {
        for (int r = 0; r < 4; r++) {
            ShieldedMachine x = readyToAdd();
            String before = looks(x);
            for (int mask = 1; mask < 256; mask++) {
                due("same copy", x.hitRegister(r, 1, mask), true);
            }
            due("nothing is seen", looks(x), before);
            ShieldedMachine y = readyToAdd();
            due("hit", y.hitRegister(r, 1, 255), true);
            due("turned back", y.hitRegister(r, 1, 255), true);
            due("another copy", y.hitRegister(r, 0, 1), false);
        }
    }

    /** "of this register": the other ones, the place and the work have hits of their own. */
    static void promise6OtherRegistersAreFree() {
        for (int r = 0; r < 4; r++) {
            ShieldedMachine x = readyToAdd();
            due("hit", x.hitRegister(r, 0, 255), true);
            for (int other = 0; other < 4; other++) {
                due("register " + other, x.hitRegister(other, 1, 255), other != r);
            }
            due("place", x.hitPlace(2, 31), true);
            due("work", x.hitWork(1, 255), true);
            dueAdded(x);
        }
    }

    /** "since the last step was done": behind any step another copy may be hit, the one that stops included. */
    static void promise6FreeBehindAStep() {
        ShieldedMachine x = readyToAdd();
        for (int step = 0; step < 2; step++) {
            for (int r = 0; r < 4; r++) {
                due("copy " + step, x.hitRegister(r, step, 255), true);
            }
            due("step", x.run(1), 1);
        }
        due("stopped", x.stopped(), true);
        for (int r = 0; r < 4; r++) {
            due("copy 2 behind STOP", x.hitRegister(r, 2, 255), true);
        }
        due("register 0", x.register(0), 33);
        due("register 3", x.register(3), 44);
    }

    /** "since the last step was done": a run that does none leaves the hits. */
    static void promise6KeptWithoutAStep() {
        ShieldedMachine x = new ShieldedMachine();
        x.hitRegister(0, 0, 1);
        x.run(0);
        due("behind run(0)", x.hitRegister(0, 1, 1), false);
        x.run(101);
        due("behind run(101)", x.hitRegister(0, 1, 1), false);
        x.run(1);
        x.hitRegister(0, 0, 1);
        x.run(100);
        due("behind a run when stopped", x.hitRegister(0, 1, 1), false);
        due("register 0", x.register(0), 0);
    }

    // ---- Promise 7: hitPlace ----

    private static void refusedPlaceHit(int copy, int mask) {
        String call = "hitPlace(" + copy + ", " + mask + ")";
        for (int free = 0; free < 3; free++) {
            ShieldedMachine x = readyToAdd();
            String before = looks(x);
            due(call, x.hitPlace(copy, mask), false);
            due("behind " + call, looks(x), before);
            dueUnhit(call, x, free);
        }
    }

    /** "Likewise for the place; mask is 1 .. 31." */
    static void promise7TakesTheEdges() {
        int[] masks = {1, 2, 16, 30, 31};
        for (int copy = 0; copy < 3; copy++) {
            for (int mask : masks) {
                ShieldedMachine x = readyToAdd();
                due("hitPlace(" + copy + ", " + mask + ")", x.hitPlace(copy, mask), true);
                due("place", x.place(), 4);
                dueAdded(x);
            }
        }
    }

    /** "Likewise": false when the copy is out of range. */
    static void promise7CopyOutOfRange() {
        int[] wrong = {-1, 3, 4, -3, LOW, HIGH};
        for (int each : wrong) {
            refusedPlaceHit(each, 1);
            refusedPlaceHit(each, 31);
        }
    }

    /** "mask is 1 .. 31": 0 and 32 are out of range, and so is what a register would take. */
    static void promise7MaskOutOfRange() {
        int[] wrong = {0, 32, 33, 63, 64, 128, 255, 256, -1, -31, LOW, HIGH};
        for (int each : wrong) {
            refusedPlaceHit(0, each);
            refusedPlaceHit(2, each);
        }
    }

    /** "Likewise": false, changing nothing, when another copy was hit since the last step was done. */
    static void promise7AnotherCopy() {
        for (int copy = 0; copy < 3; copy++) {
            for (int further = 1; further < 3; further++) {
                ShieldedMachine x = readyToAdd();
                int other = (copy + further) % 3;
                due("hit", x.hitPlace(copy, 17), true);
                due("another copy", x.hitPlace(other, 17), false);
                due("another copy, another bit", x.hitPlace(other, 2), false);
                due("place", x.place(), 4);
                due("the same copy is still the one", x.hitPlace(copy, 8), true);
                due("place", x.place(), 4);
                for (int r = 0; r < 4; r++) {
                    due("registers have hits of their own", x.hitRegister(r, other, 255), true);
                }
                dueAdded(x);
            }
        }
        ShieldedMachine y = new ShieldedMachine();
        y.hitPlace(1, 31);
        due("turned back", y.hitPlace(1, 31), true);
        due("another copy", y.hitPlace(0, 1), false);
    }

    /** "Likewise": behind a step another copy may be hit, behind a STOP too, but not behind a run without a step. */
    static void promise7FreeBehindAStep() {
        ShieldedMachine x = readyToAdd();
        due("copy 0", x.hitPlace(0, 31), true);
        due("run(0)", x.run(0), 0);
        due("copy 1 without a step", x.hitPlace(1, 31), false);
        due("ADD", x.run(1), 1);
        due("copy 1 behind ADD", x.hitPlace(1, 31), true);
        due("STOP", x.run(1), 1);
        due("copy 2 behind STOP", x.hitPlace(2, 31), true);
        due("no step", x.run(1), 0);
        due("copy 0 without a step", x.hitPlace(0, 31), false);
        due("place", x.place(), 5);
    }

    // ---- Promise 8: hitWork ----

    private static void refusedWorkHit(int copy, int mask) {
        String call = "hitWork(" + copy + ", " + mask + ")";
        for (int free = 0; free < 3; free++) {
            ShieldedMachine x = readyToAdd();
            String before = looks(x);
            due(call, x.hitWork(copy, mask), false);
            due("behind " + call, looks(x), before);
            dueUnhit(call, x, free);
        }
    }

    /** "Turns bits (mask 1 .. 255) of one of the three results over that are worked out in the next step, and answers true". */
    static void promise8TakesTheEdges() {
        int[] masks = {1, 2, 128, 254, 255};
        for (int copy = 0; copy < 3; copy++) {
            for (int mask : masks) {
                ShieldedMachine x = readyToAdd();
                String before = looks(x);
                due("hitWork(" + copy + ", " + mask + ")", x.hitWork(copy, mask), true);
                due("nothing is seen of it", looks(x), before);
                dueAdded(x);
            }
        }
    }

    /** "false, changing nothing, when something is out of range": which of the three. */
    static void promise8CopyOutOfRange() {
        int[] wrong = {-1, 3, 4, -3, LOW, HIGH};
        for (int each : wrong) {
            refusedWorkHit(each, 1);
            refusedWorkHit(each, 255);
        }
    }

    /** "... out of range": the mask. */
    static void promise8MaskOutOfRange() {
        int[] wrong = {0, 256, 257, 511, -1, -255, LOW, HIGH};
        for (int each : wrong) {
            refusedWorkHit(0, each);
            refusedWorkHit(2, each);
        }
    }

    /** "false, changing nothing, when ... another one was hit since the last step was done." */
    static void promise8AnotherOne() {
        for (int copy = 0; copy < 3; copy++) {
            for (int further = 1; further < 3; further++) {
                ShieldedMachine x = readyToAdd();
                int other = (copy + further) % 3;
                due("hit", x.hitWork(copy, 129), true);
                due("another one", x.hitWork(other, 129), false);
                due("another one, another bit", x.hitWork(other, 2), false);
                due("the same is still the one", x.hitWork(copy, 4), true);
                due("the place has hits of its own", x.hitPlace(other, 31), true);
                dueAdded(x);
            }
        }
        ShieldedMachine y = new ShieldedMachine();
        y.hitWork(1, 255);
        due("turned back", y.hitWork(1, 255), true);
        due("another one", y.hitWork(0, 1), false);
    }

    /** "in the next step": the step behind it has three results of its own, of which another one may be hit. */
    static void promise8OfTheNextStepAlone() {
        for (int op = 0; op <= 13; op++) {
            ShieldedMachine x = machine(op, 2, 1, ADD, 1, 3);
            x.setData(0, 3);
            due("hit", x.hitWork(0, 255), true);
            due("op " + op, x.run(1), 1);
            due("another one behind op " + op, x.hitWork(1, 255), true);
            x.reset();
            due("set", x.set(0, SET, 1, 64), true);
            due("set", x.set(1, ADD, 1, 1), true);
            due("hit", x.hitWork(2, 255), true);
            due("SET", x.run(1), 1);
            due("hit", x.hitWork(0, 255), true);
            due("ADD", x.run(1), 1);
            due("register 1", x.register(1), 128);
        }
    }

    /** "since the last step was done": a run that does none leaves the hit. */
    static void promise8KeptWithoutAStep() {
        ShieldedMachine x = new ShieldedMachine();
        x.hitWork(0, 1);
        x.run(0);
        due("behind run(0)", x.hitWork(1, 1), false);
        x.run(101);
        due("behind run(101)", x.hitWork(1, 1), false);
        x.run(1);
        due("behind STOP", x.hitWork(1, 1), true);
        x.run(100);
        due("behind a run when stopped", x.hitWork(0, 1), false);
    }

    // ---- Promise 9: hitData ----

    /** "Turns bit 0 .. 12 of the code word of a cell over, and answers true": of the first and the last cell. */
    static void promise9TakesTheEdges() {
        int[] cells = {0, 15};
        int[] bits = {0, 1, 11, 12};
        for (int cell : cells) {
            for (int bit : bits) {
                ShieldedMachine x = new ShieldedMachine();
                x.setData(cell, 165);
                due("hitData(" + cell + ", " + bit + ")", x.hitData(cell, bit), true);
                due("spoiled", x.spoiled(), 1);
                due("data", x.data(cell), 165);
            }
        }
    }

    /** "false, changing nothing, when something is out of range": the cell. */
    static void promise9CellOutOfRange() {
        int[] wrong = {-1, 16, 17, 31, 32, -16, LOW, HIGH};
        for (int each : wrong) {
            refusedDataHit(each, 0);
            refusedDataHit(each, 12);
        }
    }

    /** "... out of range": the bit. */
    static void promise9BitOutOfRange() {
        int[] wrong = {-1, 13, 14, 21, 31, 32, 33, 45, -13, LOW, HIGH};
        for (int each : wrong) {
            refusedDataHit(0, each);
            refusedDataHit(15, each);
        }
    }

    private static void refusedDataHit(int cell, int bit) {
        ShieldedMachine x = machine(JUMP, 0, 0);
        for (int each = 0; each < 16; each++) {
            x.setData(each, 200 + each);
        }
        String before = looks(x);
        String call = "hitData(" + cell + ", " + bit + ")";
        due(call, x.hitData(cell, bit), false);
        due("behind " + call, looks(x), before);
        for (int each = 0; each < 16; each++) {
            due("cell " + each + " takes a hit behind " + call, x.hitData(each, 5), true);
            due("cell " + each + " behind " + call, x.data(each), 200 + each);
        }
        due("all are spoiled", x.spoiled(), 16);
    }

    /** "false, changing nothing, when ... it is spoiled": for the same bit, which would turn it back, and for any other. */
    static void promise9SpoiledIsRefused() {
        for (int first = 0; first < 13; first++) {
            for (int second = 0; second < 13; second++) {
                ShieldedMachine x = new ShieldedMachine();
                x.setData(15, 90);
                due("hit", x.hitData(15, first), true);
                due("bit " + second + " behind bit " + first, x.hitData(15, second), false);
                due("data", x.data(15), 90);
                due("spoiled", x.spoiled(), 1);
                due("another cell is not", x.hitData(14, second), true);
                due("nor is the step of this number", x.hitProgram(15, second), true);
            }
        }
    }

    /** "it is spoiled": when it was repaired since, it takes a hit again. */
    static void promise9RepairedIsTaken() {
        ShieldedMachine x = machine(LOAD, 0, 15, LOAD, 1, 15);
        x.setData(15, 90);
        due("hit", x.hitData(15, 12), true);
        due("LOAD", x.run(1), 1);
        due("hit behind a LOAD", x.hitData(15, 0), true);
        due("data", x.data(15), 90);
        due("setData", x.setData(15, 91), true);
        due("hit behind setData", x.hitData(15, 6), true);
        due("data", x.data(15), 91);
        due("LOAD", x.run(1), 1);
        due("register 1", x.register(1), 91);
    }

    // ---- Promise 10: hitProgram ----

    /** "Turns bit 0 .. 21 of the code word of the step at a place over, and answers true": at the first and the last place. */
    static void promise10TakesTheEdges() {
        int[] bits = {0, 1, 20, 21};
        for (int bit : bits) {
            ShieldedMachine x = machine(JUMP, 3, 255);
            x.set(31, SET, 3, 255);
            due("hitProgram(0, " + bit + ")", x.hitProgram(0, bit), true);
            due("hitProgram(31, " + bit + ")", x.hitProgram(31, bit), true);
            due("spoiled", x.spoiled(), 2);
            due("run", x.run(1), 1);
            due("JUMP", x.place(), 31);
            due("run", x.run(1), 1);
            due("SET", x.register(3), 255);
            due("spoiled", x.spoiled(), 0);
        }
    }

    /** "false, changing nothing, when something is out of range": the place. */
    static void promise10PlaceOutOfRange() {
        int[] wrong = {-1, 32, 33, 63, 64, -32, LOW, HIGH};
        for (int each : wrong) {
            refusedProgramHit(each, 0);
            refusedProgramHit(each, 21);
        }
    }

    /** "... out of range": the bit. */
    static void promise10BitOutOfRange() {
        int[] wrong = {-1, 22, 23, 31, 32, 33, 53, 54, -22, LOW, HIGH};
        for (int each : wrong) {
            refusedProgramHit(0, each);
            refusedProgramHit(31, each);
        }
    }

    private static void refusedProgramHit(int place, int bit) {
        ShieldedMachine x = new ShieldedMachine();
        for (int each = 0; each < 32; each++) {
            x.set(each, SET, each % 4, 100 + each);
        }
        String before = looks(x);
        String call = "hitProgram(" + place + ", " + bit + ")";
        due(call, x.hitProgram(place, bit), false);
        due("behind " + call, looks(x), before);
        for (int each = 0; each < 32; each++) {
            due("step " + each + " takes a hit behind " + call, x.hitProgram(each, 7), true);
        }
        due("all are spoiled", x.spoiled(), 32);
        for (int each = 0; each < 32; each++) {
            x.run(1);
            due("step " + each + " behind " + call, x.register(each % 4), 100 + each);
        }
    }

    /** "false, changing nothing, when ... it is spoiled": for the same bit, which would turn it back, and for any other. */
    static void promise10SpoiledIsRefused() {
        for (int first = 0; first < 22; first++) {
            for (int second = 0; second < 22; second++) {
                ShieldedMachine x = atLastPlace(SET, 2, 90, 1, 2, 3, 4);
                due("hit", x.hitProgram(31, first), true);
                due("bit " + second + " behind bit " + first, x.hitProgram(31, second), false);
                due("spoiled", x.spoiled(), 1);
                due("another step is not", x.hitProgram(15, second), true);
                due("nor is the cell of that number", x.hitData(15, second % 13), true);
                due("run", x.run(1), 1);
                due("register 2", x.register(2), 90);
                due("place", x.place(), 0);
            }
        }
    }

    /** "it is spoiled": when it was repaired since, it takes a hit again. */
    static void promise10RepairedIsTaken() {
        ShieldedMachine x = machine(SET, 0, 1, JUMP, 0, 1);
        due("hit", x.hitProgram(1, 21), true);
        due("set", x.set(1, JUMP, 0, 1), true);
        due("hit behind set", x.hitProgram(1, 0), true);
        due("run", x.run(2), 2);
        due("hit behind the step", x.hitProgram(1, 12), true);
        due("run", x.run(100), 100);
        due("place", x.place(), 1);
    }

    // ---- Promise 11: register ----

    /** "The value of a register": the least and the greatest of the first and the last. */
    static void promise11Edges() {
        ShieldedMachine x = machine(SET, 0, 255, SET, 3, 255, SET, 0, 0, SET, 3, 0);
        x.run(2);
        due("register 0", x.register(0), 255);
        due("register 3", x.register(3), 255);
        due("register 1", x.register(1), 0);
        due("register 2", x.register(2), 0);
        x.run(2);
        due("register 0", x.register(0), 0);
        due("register 3", x.register(3), 0);
    }

    /** "BAD when there is none." */
    static void promise11NoSuchRegister() {
        int[] wrong = {-1, 4, 5, 6, 7, 8, 255, -4, LOW, HIGH};
        for (int each : wrong) {
            due("register(" + each + ")", readyToAdd().register(each), BAD);
        }
    }

    // ---- Promise 12: place ----

    /** "The place that the machine is at.": the first, the last, behind the last, and when it is stopped. */
    static void promise12Edges() {
        ShieldedMachine x = atLastPlace(SET, 0, 1, 0, 0, 0, 0);
        due("the last", x.place(), 31);
        x.run(1);
        due("behind the last", x.place(), 0);
        due("a new object", new ShieldedMachine().place(), 0);
        ShieldedMachine y = machine(JUMP, 0, 31);
        y.run(100);
        due("stopped", y.stopped(), true);
        due("where it stopped", y.place(), 31);
    }

    // ---- Promise 13: data ----

    /** "What a cell holds": of the first and the last. */
    static void promise13Edges() {
        ShieldedMachine x = machine(SET, 0, 255, STORE, 0, 0, STORE, 0, 15);
        due("cell 0", x.data(0), 0);
        due("cell 15", x.data(15), 0);
        x.run(100);
        due("cell 0", x.data(0), 255);
        due("cell 15", x.data(15), 255);
        due("cell 1", x.data(1), 0);
        due("cell 14", x.data(14), 0);
    }

    /** "BAD when there is none." */
    static void promise13NoSuchCell() {
        int[] wrong = {-1, 16, 17, 31, 32, 255, -16, LOW, HIGH};
        for (int each : wrong) {
            ShieldedMachine x = new ShieldedMachine();
            x.setData(0, 7);
            x.setData(15, 8);
            due("data(" + each + ")", x.data(each), BAD);
        }
    }

    /** "(It is not repaired by that.)" */
    static void promise13DoesNotRepair() {
        for (int cell = 0; cell < 16; cell++) {
            ShieldedMachine x = new ShieldedMachine();
            x.setData(cell, 3);
            due("hit", x.hitData(cell, cell % 13), true);
            due("data", x.data(cell), 3);
            due("spoiled", x.spoiled(), 1);
            due("hit again", x.hitData(cell, 0), false);
            due("data once more", x.data(cell), 3);
        }
    }

    // ---- Promise 14: outs ----

    /** "The number of bytes that were put out.": none, each number up to sixteen, and no more than that. */
    static void promise14FromNoneToFull() {
        ShieldedMachine x = machine(OUT, 0, 0, JUMP, 0, 0);
        due("none", x.outs(), 0);
        for (int count = 1; count <= 16; count++) {
            x.run(1);
            due("outs", x.outs(), count);
            x.run(1);
            due("JUMP puts nothing out", x.outs(), count);
        }
        due("the seventeenth OUT", x.run(1), 1);
        due("sixteen", x.outs(), 16);
        x.reset();
        due("forgotten", x.outs(), 0);
    }

    // ---- Promise 15: out ----

    /** "Byte i that was put out (0 the first)": the first, the last, and all of a full list. */
    static void promise15FirstToLast() {
        ShieldedMachine x = machine(SET, 0, 255, SET, 1, 17, OUT, 0, 0, SUB, 0, 1, JUMP, 0, 2);
        due("until the seventeenth OUT", x.run(100), 51);
        for (int i = 0; i < 16; i++) {
            due("out(" + i + ")", x.out(i), 255 - 17 * i);
        }
    }

    /** "BAD when there is none.": below the first, and behind the last, however many there are. */
    static void promise15NoSuchByte() {
        ShieldedMachine x = machine(SET, 0, 9, OUT, 0, 0, JUMP, 0, 1);
        x.run(1);
        for (int count = 0; count <= 16; count++) {
            due("last of " + count, x.out(count - 1), count == 0 ? BAD : 9);
            due("behind the last of " + count, x.out(count), BAD);
            due("below the first", x.out(-1), BAD);
            due("out(16)", x.out(16), BAD);
            due("out(17)", x.out(17), BAD);
            due("least", x.out(LOW), BAD);
            due("greatest", x.out(HIGH), BAD);
            x.run(2);
        }
    }

    /** "BAD when there is none.": what a reset made forgotten is none, even when others are put out behind it. */
    static void promise15ForgottenIsNone() {
        ShieldedMachine x = machine(SET, 0, 9, OUT, 0, 0, OUT, 0, 0);
        x.run(100);
        due("out(1)", x.out(1), 9);
        x.reset();
        due("out(0)", x.out(0), BAD);
        due("out(1)", x.out(1), BAD);
        x.run(2);
        due("out(0) again", x.out(0), 9);
        due("out(1) not yet", x.out(1), BAD);
    }

    // ---- Promise 16: stopped ----

    /** "Whether the machine is stopped.": not before the STOP is done, and until a reset. */
    static void promise16FromStopToReset() {
        ShieldedMachine x = machine(SET, 0, 1);
        due("new", x.stopped(), false);
        x.run(1);
        due("at the STOP", x.stopped(), false);
        x.run(0);
        due("still at the STOP", x.stopped(), false);
        x.run(1);
        due("behind the STOP", x.stopped(), true);
        x.run(100);
        due("still", x.stopped(), true);
        x.reset();
        due("reset", x.stopped(), false);
    }

    /** The same of the seventeenth OUT, the other step at which it stops. */
    static void promise16SeventeenthOut() {
        ShieldedMachine x = machine(OUT, 0, 0, JUMP, 0, 0);
        x.run(31);
        due("behind the sixteenth", x.stopped(), false);
        x.run(1);
        due("at the seventeenth", x.stopped(), false);
        x.run(1);
        due("behind the seventeenth", x.stopped(), true);
        x.reset();
        due("reset", x.stopped(), false);
    }

    // ---- Promise 17: spoiled ----

    /** "The number of code words that are spoiled.": none, each number, and all 48. */
    static void promise17FromNoneToAll() {
        ShieldedMachine x = new ShieldedMachine();
        due("none", x.spoiled(), 0);
        for (int place = 0; place < 32; place++) {
            x.hitProgram(place, 21 - place % 22);
            due("steps", x.spoiled(), place + 1);
        }
        for (int cell = 0; cell < 16; cell++) {
            x.hitData(cell, 12 - cell % 13);
            due("steps and cells", x.spoiled(), 33 + cell);
        }
        due("refused", x.hitData(0, 0), false);
        due("all", x.spoiled(), 48);
    }

    /** "code words": registers, the place and the work are none. */
    static void promise17OnlyCodeWords() {
        ShieldedMachine x = new ShieldedMachine();
        x.hitRegister(0, 0, 255);
        x.hitRegister(3, 2, 255);
        x.hitPlace(0, 31);
        x.hitWork(0, 255);
        due("spoiled", x.spoiled(), 0);
    }

    // ---- Promise 18: order and limits ----

    /** "8 HALF: r / 2 is rounded down." */
    static void promise18RoundsDown() {
        int[] values = {0, 1, 2, 3, 4, 5, 127, 128, 129, 253, 254, 255};
        int[] halves = {0, 0, 1, 1, 2, 2, 63, 64, 64, 126, 127, 127};
        for (int i = 0; i < values.length; i++) {
            for (int r = 0; r < 4; r++) {
                int[] bytes = {9, 9, 9, 9};
                bytes[r] = values[i];
                ShieldedMachine x = atLastPlace(HALF, r, 255 - r, bytes);
                x.run(1);
                for (int each = 0; each < 4; each++) {
                    due("register " + each + " behind HALF of " + values[i], x.register(each), each == r ? halves[i] : 9);
                }
            }
        }
    }
}

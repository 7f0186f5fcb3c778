/** The operations by name, and what the tests need to make machines and to look at them. */
abstract class Steps {
    static final int STOP = 0;
    static final int SET = 1;
    static final int LOAD = 2;
    static final int STORE = 3;
    static final int ADD = 4;
    static final int SUB = 5;
    static final int AND = 6;
    static final int XOR = 7;
    static final int HALF = 8;
    static final int JUMP = 9;
    static final int ZERO = 10;
    static final int OUT = 11;
    static final int FETCH = 12;
    static final int KEEP = 13;
    static final int BAD = ShieldedMachine.BAD;
    static final int LOW = Integer.MIN_VALUE;
    static final int HIGH = Integer.MAX_VALUE;

    static void due(String what, int got, int want) {
        Check.due(what, got, want);
    }

    static void due(String what, boolean got, boolean want) {
        Check.due(what, got, want);
    }

    static void due(String what, String got, String want) {
        Check.due(what, got, want);
    }

    /** A machine with the given steps (op, r, n each) at its places from 0 on. */
    static ShieldedMachine machine(int... steps) {
        ShieldedMachine x = new ShieldedMachine();
        for (int i = 0; i * 3 < steps.length; i++) {
            due("set of step " + i, x.set(i, steps[i * 3], steps[i * 3 + 1], steps[i * 3 + 2]), true);
        }
        return x;
    }

    /** A machine that has done five steps, is at place 31 with this step there, and whose registers hold these bytes. */
    static ShieldedMachine atLastPlace(int op, int r, int n, int... bytes) {
        ShieldedMachine x = machine(SET, 0, bytes[0], SET, 1, bytes[1], SET, 2, bytes[2], SET, 3, bytes[3], JUMP, 0, 31);
        due("set of step 31", x.set(31, op, r, n), true);
        due("steps to place 31", x.run(5), 5);
        due("at place 31", x.place(), 31);
        return x;
    }

    /** All that can be asked without changing anything, with 41 calls. */
    static String looks(ShieldedMachine x) {
        StringBuilder all = new StringBuilder("registers");
        for (int r = 0; r < 4; r++) {
            all.append(' ').append(x.register(r));
        }
        all.append(", place ").append(x.place()).append(", data");
        for (int cell = 0; cell < 16; cell++) {
            all.append(' ').append(x.data(cell));
        }
        all.append(", ").append(x.outs()).append(" outs");
        for (int i = 0; i < 17; i++) {
            all.append(' ').append(x.out(i));
        }
        return all.append(", stopped ").append(x.stopped()).append(", spoiled ").append(x.spoiled()).toString();
    }
}

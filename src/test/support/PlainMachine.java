/**
 * The machine of the document without any shield: a hit that is accepted is only noted.
 * Whatever the shielded one answers must be what this one answers.
 */
final class PlainMachine {
    static final int NONE = -1;
    final int[] registers = new int[4];
    final int[] data = new int[16];
    final int[][] program = new int[32][3];
    final boolean[] cellSpoiled = new boolean[16];
    final boolean[] stepSpoiled = new boolean[32];
    final int[] registerHit = {NONE, NONE, NONE, NONE};
    int placeHit = NONE;
    int workHit = NONE;
    final java.util.ArrayList<Integer> put = new java.util.ArrayList<>();
    int at = 0;
    boolean halted = false;
    long done = 0;

    static boolean in(int value, int least, int greatest) {
        return value >= least && value <= greatest;
    }

    boolean set(int place, int op, int r, int n) {
        if (!(in(place, 0, 31) && in(op, 0, 13) && in(r, 0, 3) && in(n, 0, 255))) {
            return false;
        }
        program[place] = new int[] {op, r, n};
        stepSpoiled[place] = false;
        return true;
    }

    boolean setData(int cell, int v) {
        if (!(in(cell, 0, 15) && in(v, 0, 255))) {
            return false;
        }
        data[cell] = v;
        cellSpoiled[cell] = false;
        return true;
    }

    int run(int n) {
        if (!in(n, 0, 100)) {
            return -1;
        }
        int count = 0;
        for (; count < n && !halted; count++) {
            step();
        }
        return count;
    }

    private void step() {
        int op = program[at][0];
        int r = program[at][1];
        int n = program[at][2];
        int s = registers[n % 4];
        int next = (at + 1) % 32;
        stepSpoiled[at] = false;
        if (op == 0) {
            halted = true;
            next = at;
        } else if (op == 1) {
            registers[r] = n;
        } else if (op == 2) {
            registers[r] = touch(n % 16);
        } else if (op == 3) {
            touch(n % 16);
            data[n % 16] = registers[r];
        } else if (op == 4) {
            registers[r] = (registers[r] + s) % 256;
        } else if (op == 5) {
            registers[r] = (registers[r] + 256 - s) % 256;
        } else if (op == 6) {
            registers[r] = registers[r] & s;
        } else if (op == 7) {
            registers[r] = registers[r] ^ s;
        } else if (op == 8) {
            registers[r] = registers[r] / 2;
        } else if (op == 9) {
            next = n % 32;
        } else if (op == 10) {
            next = registers[r] == 0 ? n % 32 : next;
        } else if (op == 11) {
            if (put.size() == 16) {
                halted = true;
                next = at;
            } else {
                put.add(registers[r]);
            }
        } else if (op == 12) {
            registers[r] = touch(s % 16);
        } else {
            touch(s % 16);
            data[s % 16] = registers[r];
        }
        at = next;
        forgetHits();
        repairInTurn();
    }

    private int touch(int cell) {
        cellSpoiled[cell] = false;
        return data[cell];
    }

    private void forgetHits() {
        java.util.Arrays.fill(registerHit, NONE);
        placeHit = NONE;
        workHit = NONE;
    }

    private void repairInTurn() {
        int k = (int) (done % 48);
        if (k < 32) {
            stepSpoiled[k] = false;
        } else {
            cellSpoiled[k - 32] = false;
        }
        done++;
    }

    void reset() {
        java.util.Arrays.fill(registers, 0);
        at = 0;
        put.clear();
        halted = false;
        forgetHits();
    }

    boolean hitRegister(int r, int copy, int mask) {
        if (!(in(r, 0, 3) && in(copy, 0, 2) && in(mask, 1, 255)) || (registerHit[r] != NONE && registerHit[r] != copy)) {
            return false;
        }
        registerHit[r] = copy;
        return true;
    }

    boolean hitPlace(int copy, int mask) {
        if (!(in(copy, 0, 2) && in(mask, 1, 31)) || (placeHit != NONE && placeHit != copy)) {
            return false;
        }
        placeHit = copy;
        return true;
    }

    boolean hitWork(int copy, int mask) {
        if (!(in(copy, 0, 2) && in(mask, 1, 255)) || (workHit != NONE && workHit != copy)) {
            return false;
        }
        workHit = copy;
        return true;
    }

    boolean hitData(int cell, int bit) {
        if (!(in(cell, 0, 15) && in(bit, 0, 12)) || cellSpoiled[cell]) {
            return false;
        }
        cellSpoiled[cell] = true;
        return true;
    }

    boolean hitProgram(int place, int bit) {
        if (!(in(place, 0, 31) && in(bit, 0, 21)) || stepSpoiled[place]) {
            return false;
        }
        stepSpoiled[place] = true;
        return true;
    }

    int register(int r) {
        return in(r, 0, 3) ? registers[r] : -1;
    }

    int cell(int cell) {
        return in(cell, 0, 15) ? data[cell] : -1;
    }

    int out(int i) {
        return in(i, 0, put.size() - 1) ? put.get(i) : -1;
    }

    int spoiled() {
        int count = 0;
        for (boolean each : cellSpoiled) {
            count += each ? 1 : 0;
        }
        for (boolean each : stepSpoiled) {
            count += each ? 1 : 0;
        }
        return count;
    }
}

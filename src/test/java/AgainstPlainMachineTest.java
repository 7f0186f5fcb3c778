/** Long mixed runs of calls, hits among them, on a shielded and on a plain machine: all answers must be the same. */
public final class AgainstPlainMachineTest {
    private static final int OBJECTS = 4000;
    /** Below 512, as some rounds make two calls. */
    private static final int CALLS = 400;
    private static long state = 1;

    public static void main(String[] args) {
        for (int object = 0; object < OBJECTS; object++) {
            compareOneObject(object);
        }
        Check.end();
    }

    /** A counting sequence of our own, so that every run of the test makes the same calls. */
    private static int below(int bound) {
        state = state * 6364136223846793005L + 1442695040888963407L;
        return (int) ((state >>> 33) % bound);
    }

    /** Mostly 0 .. greatest, now and then beside it or far off. */
    private static int around(int least, int greatest) {
        switch (below(60)) {
            case 0:
                return least - 1;
            case 1:
                return greatest + 1;
            case 2:
                return below(2) == 0 ? Integer.MIN_VALUE : Integer.MAX_VALUE;
            case 3:
                return greatest;
            default:
                return least + below(greatest - least + 1);
        }
    }

    private static void compareOneObject(int object) {
        ShieldedMachine x = new ShieldedMachine();
        PlainMachine y = new PlainMachine();
        int calls = 0;
        if (object % 4 != 0) {
            for (; calls < 32; calls++) {
                // STOP seldom, or hardly a program would get anywhere
                set(x, y, calls, below(30) == 0 ? 0 : 1 + below(13), below(4), below(256));
            }
        }
        for (; calls < CALLS; calls++) {
            int kind = below(100);
            if (kind < 50) {
                hit(x, y);
            } else if (kind < 75) {
                change(x, y);
            } else {
                look(x, y);
            }
        }
    }

    private static void set(ShieldedMachine x, PlainMachine y, int place, int op, int r, int n) {
        Check.due("set(" + place + ", " + op + ", " + r + ", " + n + ")", x.set(place, op, r, n), y.set(place, op, r, n));
    }

    private static void hit(ShieldedMachine x, PlainMachine y) {
        int copy = around(0, 2);
        int mask = around(1, 255);
        switch (below(6)) {
            case 0: {
                int r = around(0, 3);
                Check.due("hitRegister", x.hitRegister(r, copy, mask), y.hitRegister(r, copy, mask));
                break;
            }
            case 1: {
                int bits = around(1, 31);
                Check.due("hitPlace", x.hitPlace(copy, bits), y.hitPlace(copy, bits));
                break;
            }
            case 2:
                Check.due("hitWork", x.hitWork(copy, mask), y.hitWork(copy, mask));
                break;
            case 3: {
                int cell = around(0, 15);
                int bit = around(0, 12);
                Check.due("hitData", x.hitData(cell, bit), y.hitData(cell, bit));
                break;
            }
            default: {
                int place = around(0, 31);
                int bit = around(0, 21);
                Check.due("hitProgram", x.hitProgram(place, bit), y.hitProgram(place, bit));
                break;
            }
        }
    }

    private static void change(ShieldedMachine x, PlainMachine y) {
        int kind = below(24);
        if (kind == 0) {
            x.reset();
            y.reset();
        } else if (kind < 4) {
            set(x, y, around(0, 31), around(0, 13), around(0, 3), around(0, 255));
        } else if (kind < 6) {
            int cell = around(0, 15);
            int v = around(0, 255);
            Check.due("setData", x.setData(cell, v), y.setData(cell, v));
        } else {
            int n = below(6) == 0 ? around(0, 100) : below(4);
            Check.due("run(" + n + ")", x.run(n), y.run(n));
            // a machine that stopped does nothing more, so most are woken
            if (y.halted && below(4) != 0) {
                x.reset();
                y.reset();
            }
        }
    }

    private static void look(ShieldedMachine x, PlainMachine y) {
        int r = around(0, 3);
        int cell = around(0, 15);
        switch (below(8)) {
            case 0:
                Check.due("place()", x.place(), y.at);
                break;
            case 1:
                Check.due("outs()", x.outs(), y.put.size());
                break;
            case 2:
                Check.due("out(" + cell + ")", x.out(cell), y.out(cell));
                break;
            case 3:
                Check.due("stopped()", x.stopped(), y.halted);
                break;
            case 4:
                Check.due("spoiled()", x.spoiled(), y.spoiled());
                break;
            case 5:
                Check.due("data(" + cell + ")", x.data(cell), y.cell(cell));
                break;
            default:
                Check.due("register(" + r + ")", x.register(r), y.register(r));
                break;
        }
    }
}

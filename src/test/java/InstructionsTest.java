/** The document's Terms: what each instruction does, from every x and y and with edges of c. */
public final class InstructionsTest {
    private static final int[] NUMBERS = {
        0, 1, 2, 3, 7, 8, 15, 16, 17, 31, 32, 33, 47, 63, 64, -1, -2, -15, -16, -17, -32,
        Integer.MAX_VALUE, Integer.MAX_VALUE - 15, Integer.MIN_VALUE, Integer.MIN_VALUE + 5,
    };

    private static final Check CHECK = new Check();

    public static void main(String[] args) {
        for (int c : NUMBERS) {
            for (int x = 0; x < 16; x++) {
                for (int y = 0; y < 16; y++) {
                    lookAtRegisters(c, x, y);
                    lookAtTraps(c, x, y);
                    lookAtJumps(x, y);
                    lookAtJumpsOut(c, x, y);
                }
            }
        }
        lookAtReadAndHalt();
        CHECK.end();
    }

    private static void lookAtRegisters(int c, int x, int y) {
        long wide = c;
        becomes(Ops.SETX, c, x, y, Math.floorMod(c, 16), y);
        becomes(Ops.SETY, c, x, y, x, Math.floorMod(c, 16));
        becomes(Ops.ADDC, c, x, y, (int) Math.floorMod(x + wide, 16L), y);
        becomes(Ops.ADD, c, x, y, (x + y) % 16, y);
        becomes(Ops.SUB, c, x, y, Math.floorMod(x - y, 16), y);
        becomes(Ops.MUL, c, x, y, x * y % 16, y);
        becomes(Ops.SWAP, c, x, y, y, x);
        if (y > 0) {
            becomes(Ops.DIV, c, x, y, x / y, y);
        }
        if (x < Math.floorMod(c, 32)) {
            becomes(Ops.INDEX, c, x, y, x, y);
        }
    }

    private static void becomes(int op, int c, int x, int y, int wantX, int wantY) {
        TrapProver prover = Check.from(Check.program(op, c, Ops.HALT, 0), x, y);
        String call = "op " + op + " " + c + " with x " + x + " y " + y;
        CHECK.due(call + ": possible", prover.possible(1, wantX, wantY), true);
        CHECK.due(call + ": states", prover.states(1), 1);
        CHECK.due(call + ": traps", prover.traps(0), 0);
        CHECK.due(call + ": soonest", prover.soonest(1), 1);
    }

    private static void lookAtTraps(int c, int x, int y) {
        traps(Ops.DIV, c, x, y, y == 0);
        traps(Ops.INDEX, c, x, y, x >= Math.floorMod(c, 32));
    }

    private static void traps(int op, int c, int x, int y, boolean want) {
        TrapProver prover = Check.from(Check.program(op, c, Ops.HALT, 0), x, y);
        String call = "op " + op + " " + c + " with x " + x + " y " + y;
        CHECK.due(call + ": traps", prover.traps(0), want ? 1 : 0);
        CHECK.due(call + ": safe", prover.safe(), !want);
        CHECK.due(call + ": canEnd", prover.canEnd(), !want);
        CHECK.due(call + ": states after", prover.states(1), want ? 0 : 1);
    }

    private static void lookAtJumps(int x, int y) {
        for (int target = 0; target < 4; target++) {
            goes(Ops.JUMP, target, x, y, true);
            goes(Ops.JEQ, target, x, y, x == y);
            goes(Ops.JLT, target, x, y, x < y);
            goes(Ops.JZ, target, x, y, x == 0);
        }
    }

    private static void goes(int op, int target, int x, int y, boolean elsewhere) {
        TrapProver prover =
            Check.from(Check.program(op, target, Ops.HALT, 0, Ops.HALT, 0, Ops.HALT, 0), x, y);
        int want = elsewhere ? target : 1;
        String call = "op " + op + " " + target + " with x " + x + " y " + y;
        for (int p = 1; p < 4; p++) {
            CHECK.due(call + ": states(" + p + ")", prover.states(p), p == want ? 1 : 0);
        }
        CHECK.due(call + ": registers", prover.possible(want, x, y), true);
        CHECK.due(call + ": canRunForever", prover.canRunForever(), want == 0);
    }

    /** A jump to what is not an instruction ends the run without a trap. */
    private static void lookAtJumpsOut(int c, int x, int y) {
        if (c == 0 || c == 1) {
            return;
        }
        int[] jumps = {Ops.JUMP, Ops.JEQ, Ops.JLT, Ops.JZ};
        boolean[] taken = {true, x == y, x < y, x == 0};
        for (int i = 0; i < jumps.length; i++) {
            // The second instruction never ends, so only the jump itself can end the run.
            TrapProver prover = Check.from(Check.program(jumps[i], c, Ops.JUMP, 1), x, y);
            String call = "op " + jumps[i] + " " + c + " with x " + x + " y " + y;
            CHECK.due(call + ": canEnd", prover.canEnd(), taken[i]);
            CHECK.due(call + ": safe", prover.safe(), true);
            CHECK.due(call + ": canRunForever", prover.canRunForever(), !taken[i]);
        }
    }

    private static void lookAtReadAndHalt() {
        TrapProver read = Check.from(Check.program(Ops.READ, 77, Ops.HALT, 0), 3, 9);
        CHECK.due("READ: states", read.states(1), 16);
        CHECK.due("READ: x", read.values(1, 0), 1 << 3);
        CHECK.due("READ: y", read.values(1, 1), 0xFFFF);
        TrapProver halt = Check.program(Ops.HALT, 0, Ops.DIV, 0);
        CHECK.due("HALT: states after", halt.states(1), 0);
        CHECK.due("HALT: canEnd", halt.canEnd(), true);
        CHECK.due("HALT: safe", halt.safe(), true);
    }
}

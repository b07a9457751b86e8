/** Promises 10 and 12 to 14: safe, canEnd, canRunForever and endless, with the edges of 15. */
public final class OutcomesTest {
    private static final Check CHECK = new Check();

    public static void main(String[] args) {
        noInstructions(new TrapProver());
        TrapProver cleared = Check.program(Ops.INDEX, 0, Ops.JUMP, 1);
        outcomes("before clear", cleared, false, false, 0);
        cleared.clear();
        noInstructions(cleared);
        waysToEnd();
        waysToTrap();
        waysToRunForever();
        readChoosesFreely();
        statesOnTheWayToALoop();
        changesAreSeen();
        CHECK.end();
    }

    private static void outcomes(
            String name, TrapProver prover, boolean safe, boolean canEnd, int endless) {
        CHECK.due(name + ": safe", prover.safe(), safe);
        CHECK.due(name + ": canEnd", prover.canEnd(), canEnd);
        CHECK.due(name + ": canRunForever", prover.canRunForever(), endless > 0);
        CHECK.due(name + ": endless", prover.endless(), endless);
    }

    private static void noInstructions(TrapProver prover) {
        outcomes("no instructions", prover, true, false, 0);
    }

    private static void waysToEnd() {
        outcomes("HALT", Check.program(Ops.HALT, 0), true, true, 0);
        outcomes("past the last", Check.program(Ops.SETX, 0), true, true, 0);
        outcomes("READ past the last", Check.program(Ops.READ, 0), true, true, 0);
        outcomes("INDEX past the last", Check.program(Ops.INDEX, 16), true, true, 0);
        outcomes("JUMP past the last", Check.program(Ops.JUMP, 1), true, true, 0);
        outcomes("JUMP below 0", Check.program(Ops.JUMP, -1), true, true, 0);
        outcomes("JUMP far", Check.program(Ops.JUMP, Integer.MAX_VALUE), true, true, 0);
        outcomes("JUMP far below", Check.program(Ops.JUMP, Integer.MIN_VALUE), true, true, 0);
        outcomes("JUMP by no mask", Check.program(Ops.JUMP, 16), true, true, 0);
        // A HALT that no run comes to ends nothing.
        outcomes("HALT apart", Check.program(Ops.JUMP, 0, Ops.HALT, 0), true, false, 256);
        TrapProver full = new TrapProver();
        for (int p = 0; p < 16; p++) {
            full.emit(Ops.SWAP, 0);
        }
        outcomes("past the sixteenth", full, true, true, 0);
    }

    private static void waysToTrap() {
        outcomes("INDEX 0", Check.program(Ops.INDEX, 0), false, false, 0);
        outcomes("INDEX 15", Check.program(Ops.INDEX, 15), false, true, 0);
        outcomes("DIV", Check.program(Ops.DIV, 0), false, true, 0);
        outcomes("SETY 0, DIV", Check.program(Ops.SETY, 16, Ops.DIV, 0), false, false, 0);
        outcomes("SETY 1, DIV", Check.program(Ops.SETY, 17, Ops.DIV, 0), true, true, 0);
        outcomes("READ, DIV", Check.program(Ops.READ, 0, Ops.DIV, 0), false, true, 0);
        // A DIV that no run comes to traps nothing.
        outcomes("DIV apart", Check.program(Ops.HALT, 0, Ops.DIV, 0), true, true, 0);
        TrapProver narrow = Check.program(Ops.DIV, 0);
        narrow.begin(1, 1, 15);
        outcomes("DIV without y 0", narrow, true, true, 0);
    }

    private static void waysToRunForever() {
        outcomes("JUMP to itself", Check.program(Ops.JUMP, 0), true, false, 256);
        outcomes("JEQ to itself", Check.program(Ops.JEQ, 0), true, true, 16);
        outcomes("JLT to itself", Check.program(Ops.JLT, 0), true, true, 120);
        outcomes("JZ to itself", Check.program(Ops.JZ, 0), true, true, 16);
        // x goes round, yet every run goes on.
        outcomes("round", Check.program(Ops.ADDC, 1, Ops.JUMP, 0), true, false, 512);
        // A loop that each run leaves in the end is none.
        outcomes("down to 0", Check.program(Ops.JZ, 3, Ops.ADDC, -1, Ops.JUMP, 0), true, true, 0);
        // y odd comes to x == 0 at last; an even y may pass it by.
        TrapProver strides = Check.program(Ops.JZ, 3, Ops.SUB, 0, Ops.JUMP, 0);
        strides.begin(1, 2, 2);
        outcomes("strides of 2", strides, true, true, 24);
        strides.begin(1, 3, 3);
        outcomes("strides of 3", strides, true, true, 0);
        outcomes("INDEX in a loop",
            Check.program(Ops.INDEX, 3, Ops.JUMP, 0), false, false, 2 * 48);
    }

    private static void readChoosesFreely() {
        // Of the sixteen choices only y == x goes on.
        TrapProver choice = Check.from(Check.program(Ops.READ, 0, Ops.JEQ, 0), 5, 5);
        outcomes("READ for ever", choice, true, true, 1 + 1);
        choice.begin(1, 4, 5);
        outcomes("READ for ever from two", choice, true, true, 2 + 1);
        TrapProver greatest = Check.from(
            Check.program(Ops.SETX, 14, Ops.READ, 0, Ops.JLT, 1), 0, 0);
        outcomes("READ of 15 for ever", greatest, true, true, 1 + 2 + 1);
        // Each choice ends.
        outcomes("READ and HALT", Check.program(Ops.READ, 0, Ops.HALT, 0), true, true, 0);
    }

    private static void statesOnTheWayToALoop() {
        // 0 to 2 lead to the loop at 3; 4 ends, and the runs that go there are not counted.
        TrapProver prover = Check.from(
            Check.program(Ops.READ, 0, Ops.JZ, 4, Ops.ADD, 0, Ops.JUMP, 3, Ops.HALT, 0), 1, 0);
        outcomes("a way to a loop", prover, true, false, 1 + 16 + 16 + 16);
        prover.begin(0, 0, 1);
        outcomes("a way and a way out", prover, true, true, 1 + 16 + 16 + 16);
        prover.patch(3, 9);
        outcomes("the loop cut", prover, true, true, 0);
    }

    private static void changesAreSeen() {
        TrapProver prover = Check.program(Ops.JZ, 0);
        outcomes("at first", prover, true, true, 16);
        prover.begin(0, 1, 15);
        outcomes("after begin", prover, true, true, 0);
        prover.emit(Ops.DIV, 0);
        outcomes("after emit", prover, false, true, 0);
        prover.begin(0, 0, 0);
        outcomes("after begin again", prover, true, false, 16);
        prover.patch(0, 1);
        outcomes("after patch", prover, false, true, 0);
        prover.clear();
        outcomes("after clear", prover, true, false, 0);
    }
}

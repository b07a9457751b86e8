/** Promises 1 to 5: a new object, emit, patch, begin and clear, with the order of 15. */
public final class EditingTest {
    private static final Check CHECK = new Check();

    public static void main(String[] args) {
        newObject();
        emitNumbersInstructions();
        emitRefuses();
        emitLengthensTheProgram();
        patchAnswersTheOldNumber();
        patchRefuses();
        beginSetsRanges();
        beginRefuses();
        clearDropsInstructionsAlone();
        CHECK.end();
    }

    private static void newObject() {
        TrapProver prover = new TrapProver();
        for (int p : new int[] {-1, 0, 1, 15, 16}) {
            CHECK.due("new: states(" + p + ")", prover.states(p), TrapProver.BAD_PLACE);
            CHECK.due("new: patch(" + p + ", 0)", prover.patch(p, 0), TrapProver.BAD_PLACE);
        }
        CHECK.due("new: emit(14, 0)", prover.emit(Ops.HALT, 0), 0);
        CHECK.due("new: states(0)", prover.states(0), 256);
        CHECK.due("new: possible(0, 0, 0)", prover.possible(0, 0, 0), true);
        CHECK.due("new: possible(0, 15, 15)", prover.possible(0, 15, 15), true);
        CHECK.due("new: values(0, 0)", prover.values(0, 0), 0xFFFF);
        CHECK.due("new: values(0, 1)", prover.values(0, 1), 0xFFFF);
        CHECK.due("another new: states(0)", new TrapProver().states(0), TrapProver.BAD_PLACE);
    }

    private static void emitNumbersInstructions() {
        TrapProver prover = new TrapProver();
        int[] numbers = {0, -1, Integer.MIN_VALUE, Integer.MAX_VALUE, 16};
        for (int p = 0; p < 16; p++) {
            int op = p % 15;
            int c = numbers[p % numbers.length];
            CHECK.due("emit(" + op + ", " + c + ")", prover.emit(op, c), p);
        }
        CHECK.due("emit of a 17th", prover.emit(Ops.HALT, 0), TrapProver.FULL);
        CHECK.due("emit of a 17th, bad op", prover.emit(15, 0), TrapProver.BAD_OP);
        CHECK.due("emit of a 17th, bad op", prover.emit(-1, 0), TrapProver.BAD_OP);
        CHECK.due("soonest(16) when full", prover.soonest(16), TrapProver.BAD_PLACE);
        for (int p = 0; p < 16; p++) {
            CHECK.due("old c of " + p, prover.patch(p, 0), numbers[p % numbers.length]);
        }
    }

    private static void emitRefuses() {
        TrapProver prover = new TrapProver();
        for (int op : new int[] {-1, 15, 16, Integer.MIN_VALUE, Integer.MAX_VALUE}) {
            CHECK.due("emit(" + op + ", 0)", prover.emit(op, 0), TrapProver.BAD_OP);
        }
        CHECK.due("states(0) after refusals", prover.states(0), TrapProver.BAD_PLACE);
        CHECK.due("emit after refusals", prover.emit(Ops.SETX, 0), 0);
        CHECK.due("emit after refusals", prover.emit(Ops.HALT, 0), 1);
        TrapProver full = new TrapProver();
        for (int p = 0; p < 16; p++) {
            full.emit(Ops.ADDC, p);
        }
        boolean endedBefore = full.canEnd();
        full.emit(Ops.JUMP, 0);
        CHECK.due("canEnd after FULL", full.canEnd(), endedBefore);
        CHECK.due("canRunForever after FULL", full.canRunForever(), false);
        CHECK.due("patch(15, 0) after FULL", full.patch(15, 0), 15);
    }

    private static void emitLengthensTheProgram() {
        TrapProver prover = Check.program(Ops.JUMP, 2);
        CHECK.due("one JUMP out: canEnd", prover.canEnd(), true);
        CHECK.due("one JUMP out: states(1)", prover.states(1), TrapProver.BAD_PLACE);
        prover.emit(Ops.HALT, 0);
        CHECK.due("JUMP over HALT: canEnd", prover.canEnd(), true);
        prover.emit(Ops.JUMP, 0);
        CHECK.due("JUMP and back: canEnd", prover.canEnd(), false);
        CHECK.due("JUMP and back: endless", prover.endless(), 512);
    }

    private static void patchAnswersTheOldNumber() {
        TrapProver prover = Check.program(Ops.SETX, 1000, Ops.HALT, -7);
        CHECK.due("patch(0, -3)", prover.patch(0, -3), 1000);
        CHECK.due("values after patch(0, -3)", prover.values(1, 0), 1 << 13);
        CHECK.due("patch(0, MIN)", prover.patch(0, Integer.MIN_VALUE), -3);
        CHECK.due("values after patch(0, MIN)", prover.values(1, 0), 1);
        CHECK.due("patch(0, 5)", prover.patch(0, 5), Integer.MIN_VALUE);
        CHECK.due("patch(1, 8)", prover.patch(1, 8), -7);
        CHECK.due("patch(1, 8) again", prover.patch(1, 8), 8);
        CHECK.due("op of a patched HALT", prover.canEnd(), true);
        CHECK.due("values after all", prover.values(1, 0), 1 << 5);
    }

    private static void patchRefuses() {
        TrapProver prover = Check.program(Ops.SETX, 4, Ops.HALT, 6);
        for (int p : new int[] {-1, 2, 15, 16, Integer.MIN_VALUE, Integer.MAX_VALUE}) {
            CHECK.due("patch(" + p + ", 9)", prover.patch(p, 9), TrapProver.BAD_PLACE);
        }
        CHECK.due("values after refusals", prover.values(1, 0), 1 << 4);
        CHECK.due("emit after refusals", prover.emit(Ops.SETX, 0), 2);
        CHECK.due("patch of the emitted one", prover.patch(2, 0), 0);
    }

    private static void beginSetsRanges() {
        TrapProver prover = Check.program(Ops.HALT, 0);
        CHECK.due("begin(0, 3, 5)", prover.begin(0, 3, 5), 0);
        CHECK.due("x from 3 to 5", prover.values(0, 0), 0b111000);
        CHECK.due("y untouched", prover.values(0, 1), 0xFFFF);
        CHECK.due("states(0)", prover.states(0), 48);
        CHECK.due("begin(1, 15, 15)", prover.begin(1, 15, 15), 0);
        CHECK.due("y 15 alone", prover.values(0, 1), 1 << 15);
        CHECK.due("x still from 3 to 5", prover.values(0, 0), 0b111000);
        CHECK.due("states(0)", prover.states(0), 3);
        CHECK.due("begin(0, 0, 0)", prover.begin(0, 0, 0), 0);
        CHECK.due("x 0 alone", prover.values(0, 0), 1);
        CHECK.due("begin(0, 0, 15)", prover.begin(0, 0, 15), 0);
        CHECK.due("begin(1, 0, 15)", prover.begin(1, 0, 15), 0);
        CHECK.due("all again", prover.states(0), 256);
        TrapProver early = new TrapProver();
        CHECK.due("begin before emit", early.begin(1, 2, 9), 0);
        early.emit(Ops.HALT, 0);
        CHECK.due("states after begin before emit", early.states(0), 128);
    }

    private static void beginRefuses() {
        TrapProver prover = Check.from(Check.program(Ops.HALT, 0), 6, 7);
        int[][] bad = {
            {-1, 0, 15}, {2, 0, 15}, {Integer.MIN_VALUE, 0, 0}, {Integer.MAX_VALUE, 0, 0},
            {0, -1, 3}, {0, 3, 2}, {0, 3, 16}, {0, 16, 16}, {0, -1, -1}, {0, 15, 0},
            {1, -1, 3}, {1, 3, 2}, {1, 3, 16}, {1, 16, 16}, {1, -1, -1}, {1, 15, 0},
            {0, Integer.MIN_VALUE, Integer.MAX_VALUE}, {1, 0, Integer.MAX_VALUE},
            {1, Integer.MIN_VALUE, 4}, {2, 5, 4},
        };
        for (int[] b : bad) {
            String call = "begin(" + b[0] + ", " + b[1] + ", " + b[2] + ")";
            CHECK.due(call, prover.begin(b[0], b[1], b[2]), TrapProver.BAD_RANGE);
            CHECK.due("states after " + call, prover.states(0), 1);
            CHECK.due("possible after " + call, prover.possible(0, 6, 7), true);
        }
    }

    private static void clearDropsInstructionsAlone() {
        TrapProver prover = Check.from(Check.program(Ops.DIV, 1, Ops.JUMP, 1), 2, 3);
        CHECK.due("endless before clear", prover.endless(), 2);
        prover.clear();
        CHECK.due("states(0) after clear", prover.states(0), TrapProver.BAD_PLACE);
        CHECK.due("patch(0, 0) after clear", prover.patch(0, 0), TrapProver.BAD_PLACE);
        CHECK.due("endless after clear", prover.endless(), 0);
        CHECK.due("canEnd after clear", prover.canEnd(), false);
        CHECK.due("emit after clear", prover.emit(Ops.HALT, 44), 0);
        CHECK.due("c after clear", prover.patch(0, 0), 44);
        CHECK.due("range kept by clear", prover.states(0), 1);
        CHECK.due("range kept by clear", prover.possible(0, 2, 3), true);
        for (int p = 1; p < 16; p++) {
            CHECK.due("emit up to sixteen", prover.emit(Ops.SETX, 0), p);
        }
        CHECK.due("emit when full", prover.emit(Ops.SETX, 0), TrapProver.FULL);
        prover.clear();
        prover.clear();
        CHECK.due("emit after clearing twice", prover.emit(Ops.SETX, 0), 0);
    }
}

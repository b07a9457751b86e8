import java.util.function.Supplier;

/** Promises 1 to 5: a new object, emit, patch, begin and clear, a test for each sentence. */
public final class EditingTest {
    private static final int MAX = Integer.MAX_VALUE;
    private static final int MIN = Integer.MIN_VALUE;

    private static final Check CHECK = new Check();

    public static void main(String[] args) {
        CHECK.each(
            EditingTest::newHasNoInstructions, EditingTest::newBeginsWithAll,
            EditingTest::emitAppends, EditingTest::emitTakesAnyNumber,
            EditingTest::emitRefusesOps, EditingTest::emitRefusesWhenFull,
            EditingTest::emitAnswersItsNumber, EditingTest::patchGivesAnotherNumber,
            EditingTest::patchRefusesPlaces, EditingTest::patchAnswersTheOldNumber,
            EditingTest::beginSetsX, EditingTest::beginSetsY,
            EditingTest::beginRefusesRegisters, EditingTest::beginRefusesLowBelowZero,
            EditingTest::beginRefusesLowAboveHigh, EditingTest::beginRefusesHighAboveFifteen,
            EditingTest::beginAnswersZero, EditingTest::clearDropsAll,
            EditingTest::clearKeepsRanges);
    }

    private static TrapProver full() {
        TrapProver prover = Check.mixed();
        for (int p = 4; p < 16; p++) {
            prover.emit(Ops.ADDC, p);
        }
        return prover;
    }

    private static void newHasNoInstructions() {
        CHECK.sentence("Promise 1: No instructions");
        TrapProver prover = new TrapProver();
        for (int p : new int[] {-1, 0, 1, 15, 16}) {
            CHECK.due("states(" + p + ")", prover.states(p), TrapProver.BAD_PLACE);
            CHECK.due("patch(" + p + ", 0)", prover.patch(p, 0), TrapProver.BAD_PLACE);
        }
        CHECK.due("emit", prover.emit(Ops.HALT, 0), 0);
        // One object's instructions are not another's.
        CHECK.due("another: states(0)", new TrapProver().states(0), TrapProver.BAD_PLACE);
        CHECK.due("another: emit", new TrapProver().emit(Ops.HALT, 0), 0);
    }

    private static void newBeginsWithAll() {
        CHECK.sentence("Promise 1: x and y may begin with any of 0 to 15");
        Check.from(Check.program(Ops.HALT, 0), 3, 3);
        TrapProver prover = Check.program(Ops.HALT, 0);
        CHECK.due("values(0, 0)", prover.values(0, 0), 0xFFFF);
        CHECK.due("values(0, 1)", prover.values(0, 1), 0xFFFF);
        CHECK.due("states(0)", prover.states(0), 256);
        for (int x : new int[] {0, 15}) {
            for (int y : new int[] {0, 15}) {
                CHECK.due("possible(0, " + x + ", " + y + ")", prover.possible(0, x, y), true);
            }
        }
    }

    private static void emitAppends() {
        CHECK.sentence("Promise 2: Appends an instruction");
        TrapProver prover = Check.program(Ops.JUMP, 2);
        CHECK.due("JUMP out: canEnd", prover.canEnd(), true);
        CHECK.due("JUMP out: states(1)", prover.states(1), TrapProver.BAD_PLACE);
        prover.emit(Ops.HALT, 0);
        CHECK.due("JUMP over HALT: canEnd", prover.canEnd(), true);
        CHECK.due("JUMP over HALT: states(1)", prover.states(1), 0);
        prover.emit(Ops.JUMP, 0);
        CHECK.due("JUMP and back: canEnd", prover.canEnd(), false);
        CHECK.due("JUMP and back: endless", prover.endless(), 512);
    }

    private static void emitTakesAnyNumber() {
        CHECK.sentence("Promise 2: c any int");
        int[] numbers = {0, 1, 15, 16, 31, 32, 255, 65536, -1, -2, -3, -4, -5, -16, MAX, MIN};
        for (int op = Ops.SETX; op <= Ops.HALT; op++) {
            TrapProver prover = new TrapProver();
            for (int p = 0; p < 16; p++) {
                CHECK.due("emit(" + op + ", " + numbers[p] + ")", prover.emit(op, numbers[p]), p);
            }
            for (int p = 0; p < 16; p++) {
                CHECK.due("c of " + p + ", op " + op, prover.patch(p, 0), numbers[p]);
            }
        }
    }

    private static void emitRefusesOps() {
        CHECK.sentence("Promise 2: op not in 0 to 14: BAD_OP; nothing changes then");
        for (int op = 0; op <= 14; op++) {
            CHECK.due("emit(" + op + ", 1)", new TrapProver().emit(op, 1), 0);
        }
        for (int op : new int[] {-1, 15, 16, 30, -2, 256, MIN, MAX}) {
            emitRefused(TrapProver::new, op, TrapProver.BAD_OP);
            emitRefused(Check::mixed, op, TrapProver.BAD_OP);
        }
    }

    private static void emitRefusesWhenFull() {
        CHECK.sentence("Promise 2: there are sixteen: FULL; nothing changes then");
        TrapProver fifteen = Check.repeated(15, Ops.SWAP, 0);
        CHECK.due("the sixteenth", fifteen.emit(Ops.HALT, 0), 15);
        CHECK.due("the seventeenth", fifteen.emit(Ops.HALT, 0), TrapProver.FULL);
        CHECK.due("the seventeenth again", fifteen.emit(Ops.HALT, 0), TrapProver.FULL);
        for (int op = 0; op <= 14; op++) {
            emitRefused(EditingTest::full, op, TrapProver.FULL);
        }
    }

    private static void emitRefused(Supplier<TrapProver> make, int op, int due) {
        Answers.refused(CHECK, "emit(" + op + ", 1)", make, prover -> prover.emit(op, 1), due);
    }

    private static void emitAnswersItsNumber() {
        CHECK.sentence("Promise 2: Else answers its number");
        TrapProver prover = new TrapProver();
        for (int p = 0; p < 16; p++) {
            CHECK.due("emit number " + p, prover.emit(p % 15, 100 - p), p);
            CHECK.due("emit refused", prover.emit(15, 0), TrapProver.BAD_OP);
        }
        for (int p = 0; p < 16; p++) {
            CHECK.due("c of " + p, prover.patch(p, 0), 100 - p);
        }
    }

    private static void patchGivesAnotherNumber() {
        CHECK.sentence("Promise 3: Gives instruction p another number c");
        TrapProver prover = Check.program(Ops.SETX, 1000, Ops.SETY, 2, Ops.HALT, -7);
        prover.patch(0, -3);
        CHECK.due("x after patch(0, -3)", prover.values(1, 0), 1 << 13);
        prover.patch(0, MIN);
        CHECK.due("x after patch(0, MIN)", prover.values(1, 0), 1);
        prover.patch(1, MAX);
        CHECK.due("y after patch(1, MAX)", prover.values(2, 1), 1 << 15);
        CHECK.due("x stays", prover.values(2, 0), 1);
        // The op stays: a HALT with another number is a HALT.
        prover.patch(2, 0);
        CHECK.due("canEnd after patch(2, 0)", prover.canEnd(), true);
        CHECK.due("canRunForever after patch(2, 0)", prover.canRunForever(), false);
        CHECK.due("no instruction more", prover.emit(Ops.HALT, 0), 3);
        // The whole number counts: no part of 16 or 256 is a place here, as 0 would be.
        TrapProver jump = Check.program(Ops.JUMP, 0);
        for (int c : new int[] {16, 256, 65536, MIN}) {
            CHECK.due("canEnd before patch(0, " + c + ")", jump.canEnd(), false);
            jump.patch(0, c);
            CHECK.due("canEnd after patch(0, " + c + ")", jump.canEnd(), true);
            jump.patch(0, 0);
        }
        TrapProver last = Check.repeated(16, Ops.SETX, 1);
        CHECK.due("patch(15, 4)", last.patch(15, 4), 1);
        CHECK.due("c of 14", last.patch(14, 1), 1);
        CHECK.due("c of 15", last.patch(15, 1), 4);
    }

    private static void patchRefusesPlaces() {
        CHECK.sentence("Promise 3: p is not the number of an instruction: BAD_PLACE,"
            + " nothing changes");
        TrapProver prover = Check.mixed();
        CHECK.due("patch(0, 8)", prover.patch(0, 8), 5);
        CHECK.due("patch(3, 8)", prover.patch(3, 8), 3);
        for (int p : new int[] {-1, 4, 5, 15, 16, 17, -4, 256, MIN, MAX}) {
            patchRefused(Check::mixed, p);
        }
        for (int p : new int[] {-1, 0, 1, 15, 16, MIN, MAX}) {
            patchRefused(TrapProver::new, p);
        }
        for (int p : new int[] {-1, 16, 17, MIN, MAX}) {
            patchRefused(EditingTest::full, p);
        }
        // A refused patch leaves no number behind for an instruction that comes later.
        TrapProver later = new TrapProver();
        CHECK.due("patch(0, 9) too early", later.patch(0, 9), TrapProver.BAD_PLACE);
        later.emit(Ops.SETX, 4);
        CHECK.due("c of the later one", later.patch(0, 0), 4);
    }

    private static void patchRefused(Supplier<TrapProver> make, int p) {
        Answers.refused(CHECK, "patch(" + p + ", 1)", make, prover -> prover.patch(p, 1),
            TrapProver.BAD_PLACE);
    }

    private static void patchAnswersTheOldNumber() {
        CHECK.sentence("Promise 3: Else answers the old c");
        TrapProver prover = Check.program(Ops.JUMP, 1000, Ops.HALT, -7);
        // Among them the numbers of the refusals, which are answered here without one.
        int[] numbers = {0, -1, -2, -3, -4, -5, 15, 16, 31, 32, MAX, MIN, MIN, 7};
        int old = 1000;
        for (int c : numbers) {
            CHECK.due("patch(0, " + c + ")", prover.patch(0, c), old);
            old = c;
        }
        CHECK.due("patch(1, 8)", prover.patch(1, 8), -7);
        CHECK.due("patch(1, 8) again", prover.patch(1, 8), 8);
    }

    private static void beginSetsX() {
        CHECK.sentence("Promise 4: Sets the least and greatest x (register 0)");
        begins(0, 0, 15, 0xFFFF);
        begins(0, 0, 0, 1);
        begins(0, 15, 15, 1 << 15);
        begins(0, 3, 5, 0b111000);
        begins(0, 0, 14, 0x7FFF);
        begins(0, 1, 15, 0xFFFE);
    }

    private static void beginSetsY() {
        CHECK.sentence("Promise 4: Sets the least and greatest y (register 1)");
        begins(1, 0, 15, 0xFFFF);
        begins(1, 0, 0, 1);
        begins(1, 15, 15, 1 << 15);
        begins(1, 3, 5, 0b111000);
        begins(1, 0, 14, 0x7FFF);
        begins(1, 1, 15, 0xFFFE);
    }

    /** From a narrow range, and from the widest; before the first instruction, and after. */
    private static void begins(int register, int low, int high, int mask) {
        String call = "begin(" + register + ", " + low + ", " + high + ")";
        TrapProver narrow = Check.from(Check.program(Ops.HALT, 0), 7, 7);
        CHECK.due("states(0) before", narrow.states(0), 1);
        CHECK.due(call, narrow.begin(register, low, high), 0);
        CHECK.due(call + " from narrow", narrow.values(0, register), mask);
        CHECK.due(call + " leaves the other", narrow.values(0, 1 - register), 1 << 7);
        TrapProver wide = new TrapProver();
        CHECK.due(call, wide.begin(register, low, high), 0);
        wide.emit(Ops.HALT, 0);
        CHECK.due(call + " from wide", wide.values(0, register), mask);
        CHECK.due(call + " leaves the other", wide.values(0, 1 - register), 0xFFFF);
        CHECK.due("states(0) after " + call, wide.states(0), 16 * (high - low + 1));
    }

    private static void beginRefusesRegisters() {
        CHECK.sentence("Promise 4: register not 0 or 1: BAD_RANGE, nothing changes");
        for (int register : new int[] {-1, 2, 3, -2, 256, MIN, MAX}) {
            beginRefused(register, 0, 15);
            beginRefused(register, 4, 4);
            beginRefused(register, 5, 4);
        }
    }

    private static void beginRefusesLowBelowZero() {
        CHECK.sentence("Promise 4: not 0 <= low: BAD_RANGE, nothing changes");
        for (int register = 0; register <= 1; register++) {
            CHECK.due("begin(.., 0, 6)", Check.mixed().begin(register, 0, 6), 0);
            for (int low : new int[] {-1, -16, MIN}) {
                beginRefused(register, low, 6);
                beginRefused(register, low, 0);
                beginRefused(register, low, low);
            }
        }
    }

    private static void beginRefusesLowAboveHigh() {
        CHECK.sentence("Promise 4: not low <= high: BAD_RANGE, nothing changes");
        for (int register = 0; register <= 1; register++) {
            for (int high = 0; high <= 14; high++) {
                CHECK.due("begin of one value", Check.mixed().begin(register, high, high), 0);
                beginRefused(register, high + 1, high);
            }
            beginRefused(register, 15, 0);
            beginRefused(register, 0, -1);
            beginRefused(register, 0, MIN);
            beginRefused(register, MAX, 15);
            beginRefused(register, MAX, MIN);
        }
    }

    private static void beginRefusesHighAboveFifteen() {
        CHECK.sentence("Promise 4: not high <= 15: BAD_RANGE, nothing changes");
        for (int register = 0; register <= 1; register++) {
            CHECK.due("begin(.., 6, 15)", Check.mixed().begin(register, 6, 15), 0);
            for (int high : new int[] {16, 17, 31, 32, MAX}) {
                beginRefused(register, 6, high);
                beginRefused(register, 0, high);
                beginRefused(register, high, high);
            }
        }
    }

    private static void beginRefused(int register, int low, int high) {
        String call = "begin(" + register + ", " + low + ", " + high + ")";
        Supplier<TrapProver> narrow = () -> Check.from(new TrapProver(), 6, 7);
        Answers.refused(CHECK, call, Check::mixed,
            prover -> prover.begin(register, low, high), TrapProver.BAD_RANGE);
        Answers.refused(CHECK, call, narrow,
            prover -> prover.begin(register, low, high), TrapProver.BAD_RANGE);
    }

    private static void beginAnswersZero() {
        CHECK.sentence("Promise 4: Else answers 0");
        TrapProver prover = Check.mixed();
        for (int register = 0; register <= 1; register++) {
            for (int low = 0; low <= 15; low++) {
                int high = low + (15 - low) / 2;
                CHECK.due("begin(" + register + ", " + low + ", " + high + ")",
                    prover.begin(register, low, high), 0);
                CHECK.due("the same again", prover.begin(register, low, high), 0);
            }
        }
    }

    private static void clearDropsAll() {
        CHECK.sentence("Promise 5: Drops all instructions");
        TrapProver none = new TrapProver();
        none.clear();
        CHECK.same("none to drop", Answers.ofAll(none), Answers.ofAll(new TrapProver()));
        for (int length : new int[] {1, 2, 15, 16}) {
            for (boolean asked : new boolean[] {false, true}) {
                TrapProver prover = Check.repeated(length, Ops.JUMP, 0);
                if (asked) {
                    CHECK.due("endless before clear", prover.endless(), 256);
                }
                prover.clear();
                String name = "clear of " + length;
                CHECK.same(name, Answers.ofAll(prover), Answers.ofAll(new TrapProver()));
            }
        }
        TrapProver twice = full();
        twice.clear();
        twice.clear();
        for (int p = 0; p < 16; p++) {
            CHECK.due("emit after clear", twice.emit(Ops.HALT, 44), p);
        }
        CHECK.due("emit when full again", twice.emit(Ops.HALT, 44), TrapProver.FULL);
        CHECK.due("c after clear", twice.patch(3, 0), 44);
    }

    private static void clearKeepsRanges() {
        CHECK.sentence("Promise 5: Drops all instructions. (and names no other change)");
        TrapProver prover = Check.program(Ops.DIV, 1, Ops.JUMP, 1);
        prover.begin(0, 2, 4);
        prover.begin(1, 3, 9);
        CHECK.due("endless before clear", prover.endless(), 3 * 7 + 9);
        prover.clear();
        prover.emit(Ops.HALT, 0);
        CHECK.due("x after clear", prover.values(0, 0), 0b11100);
        CHECK.due("y after clear", prover.values(0, 1), 0b1111111000);
        TrapProver before = new TrapProver();
        before.begin(0, 15, 15);
        before.clear();
        before.emit(Ops.HALT, 0);
        CHECK.due("x after clear of none", before.values(0, 0), 1 << 15);
    }
}

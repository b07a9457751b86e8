/** Promises 6 to 9 and 11: states, possible, values, traps, soonest; a test for each sentence. */
public final class StatesTest {
    private static final int MAX = Integer.MAX_VALUE;
    private static final int MIN = Integer.MIN_VALUE;

    private static final Check CHECK = new Check();

    public static void main(String[] args) {
        CHECK.each(
            StatesTest::statesAreCounted, StatesTest::statesFromNoneToAll,
            StatesTest::possibleTellsStatesApart, StatesTest::possibleRefusesX,
            StatesTest::possibleRefusesY, StatesTest::valuesAreMasks,
            StatesTest::valuesFromNoneToAll, StatesTest::valuesRefusesRegisters,
            StatesTest::valuesLooksAtThePlaceFirst, StatesTest::trapsAreCounted,
            StatesTest::trapsFromNoneToAll, StatesTest::trapsOfPossibleStatesAlone,
            StatesTest::soonestIsZeroAtZero, StatesTest::soonestIsLeast,
            StatesTest::soonestOfALongRun, StatesTest::soonestRefusesPlaces,
            StatesTest::soonestIsNever);
    }

    private static void statesAreCounted() {
        CHECK.sentence("Promise 6: How many states (p, x, y) are possible");
        TrapProver prover =
            Check.program(Ops.JLT, 2, Ops.HALT, 0, Ops.SETY, 4, Ops.JUMP, 5, Ops.ADD, 0, Ops.MUL, 0);
        int[] due = {256, 136, 120, 15, 0, 15};
        for (int p = 0; p < due.length; p++) {
            CHECK.due("states(" + p + ")", prover.states(p), due[p]);
        }
        // Runs that come together at one state count it once.
        TrapProver joined = Check.program(Ops.SETX, 1, Ops.SETY, 2, Ops.JUMP, 2);
        CHECK.due("joined: states(1)", joined.states(1), 16);
        CHECK.due("joined: states(2)", joined.states(2), 1);
    }

    private static void statesFromNoneToAll() {
        CHECK.sentence("Promise 6: How many states: none, one and all of them");
        TrapProver none = Check.program(Ops.HALT, 0, Ops.HALT, 0);
        CHECK.due("none: states(1)", none.states(1), 0);
        for (int v : new int[] {0, 15}) {
            TrapProver one = Check.from(Check.repeated(16, Ops.SWAP, 0), v, 15 - v);
            TrapProver all = Check.repeated(16, Ops.SWAP, 0);
            for (int p = 0; p < 16; p++) {
                CHECK.due("one: states(" + p + ")", one.states(p), 1);
                CHECK.due("all: states(" + p + ")", all.states(p), 256);
            }
        }
    }

    private static void possibleTellsStatesApart() {
        CHECK.sentence("Promise 7: Whether the state (p, x, y) is possible");
        TrapProver one = Check.from(Check.program(Ops.SWAP, 0, Ops.HALT, 0), 4, 9);
        for (int x = 0; x < 16; x++) {
            for (int y = 0; y < 16; y++) {
                String at = x + ", " + y + ")";
                // 256 states, so each place has an object of its own for its 512 calls.
                CHECK.due("possible(0, " + at, one.possible(0, x, y), x == 4 && y == 9);
            }
        }
        TrapProver other = Check.from(Check.program(Ops.SWAP, 0, Ops.HALT, 0), 4, 9);
        for (int x = 0; x < 16; x++) {
            for (int y = 0; y < 16; y++) {
                String at = x + ", " + y + ")";
                CHECK.due("possible(1, " + at, other.possible(1, x, y), x == 9 && y == 4);
            }
        }
    }

    private static void possibleRefusesX() {
        CHECK.sentence("Promise 7: false also if x is not in 0 to 15");
        TrapProver prover = Check.repeated(16, Ops.READ, 0);
        for (int p = 0; p < 16; p++) {
            for (int y : new int[] {0, 15}) {
                CHECK.due("x 0 at " + p, prover.possible(p, 0, y), true);
                CHECK.due("x 15 at " + p, prover.possible(p, 15, y), true);
                // 16 and -1 at one place would be 0 and 15 at the next or the last.
                for (int x : new int[] {-1, 16, -16, 32, 255, MIN, MAX}) {
                    String call = "possible(" + p + ", " + x + ", " + y + ")";
                    CHECK.due(call, prover.possible(p, x, y), false);
                }
            }
        }
    }

    private static void possibleRefusesY() {
        CHECK.sentence("Promise 7: false also if y is not in 0 to 15");
        TrapProver prover = Check.repeated(16, Ops.READ, 0);
        for (int p = 0; p < 16; p++) {
            for (int x : new int[] {0, 15}) {
                CHECK.due("y 0 at " + p, prover.possible(p, x, 0), true);
                CHECK.due("y 15 at " + p, prover.possible(p, x, 15), true);
                // 16 and -1 with one x would be 0 and 15 with the next or the last.
                for (int y : new int[] {-1, 16, -16, 32, 255, MIN, MAX}) {
                    String call = "possible(" + p + ", " + x + ", " + y + ")";
                    CHECK.due(call, prover.possible(p, x, y), false);
                }
            }
        }
    }

    private static void valuesAreMasks() {
        CHECK.sentence("Promise 8: The values that x (register 0) or y (register 1) has in"
            + " possible states at p, as a mask (bit v for value v)");
        TrapProver prover = Check.program(Ops.MUL, 0, Ops.SETX, 15, Ops.HALT, 0);
        prover.begin(0, 2, 3);
        prover.begin(1, 0, 2);
        CHECK.due("values(0, 0)", prover.values(0, 0), 0b1100);
        CHECK.due("values(0, 1)", prover.values(0, 1), 0b111);
        CHECK.due("values(1, 0)", prover.values(1, 0), 0b1011101);
        CHECK.due("values(1, 1)", prover.values(1, 1), 0b111);
        CHECK.due("values(2, 0)", prover.values(2, 0), 1 << 15);
        for (int v = 0; v < 16; v++) {
            TrapProver one = Check.from(Check.program(Ops.HALT, 0), v, 15 - v);
            CHECK.due("x " + v + " alone", one.values(0, 0), 1 << v);
            CHECK.due("y " + (15 - v) + " alone", one.values(0, 1), 1 << (15 - v));
        }
    }

    private static void valuesFromNoneToAll() {
        CHECK.sentence("Promise 8: a mask: none and all of the values");
        TrapProver prover = Check.program(Ops.JUMP, 0, Ops.HALT, 0);
        for (int register = 0; register <= 1; register++) {
            CHECK.due("all of register " + register, prover.values(0, register), 0xFFFF);
            CHECK.due("none of register " + register, prover.values(1, register), 0);
        }
    }

    private static void valuesRefusesRegisters() {
        CHECK.sentence("Promise 8: register not 0 or 1: BAD_RANGE");
        TrapProver prover = Check.program(Ops.JUMP, 0, Ops.HALT, 0);
        for (int p = 0; p <= 1; p++) {
            for (int register : new int[] {-1, 2, 3, -2, 256, MIN, MAX}) {
                String call = "values(" + p + ", " + register + ")";
                CHECK.due(call, prover.values(p, register), TrapProver.BAD_RANGE);
            }
            CHECK.due("register 0", prover.values(p, 0), p == 0 ? 0xFFFF : 0);
            CHECK.due("register 1", prover.values(p, 1), p == 0 ? 0xFFFF : 0);
        }
    }

    private static void valuesLooksAtThePlaceFirst() {
        CHECK.sentence("Promise 8: BAD_RANGE, tested after BAD_PLACE");
        for (int length : new int[] {0, 1, 2, 16}) {
            TrapProver prover = Check.repeated(length, Ops.SWAP, 0);
            for (int register : new int[] {-1, 2, MIN, MAX}) {
                for (int p : new int[] {-1, length, MIN, MAX}) {
                    String call = "values(" + p + ", " + register + ") of " + length;
                    CHECK.due(call, prover.values(p, register), TrapProver.BAD_PLACE);
                }
                if (length > 0) {
                    String call = "values(" + (length - 1) + ", " + register + ") of " + length;
                    CHECK.due(call, prover.values(length - 1, register), TrapProver.BAD_RANGE);
                }
            }
        }
    }

    private static void trapsAreCounted() {
        CHECK.sentence("Promise 9: How many possible states at p trap");
        TrapProver prover = Check.program(Ops.INDEX, 10, Ops.DIV, 0, Ops.HALT, 0);
        CHECK.due("traps(0)", prover.traps(0), 96);
        CHECK.due("traps(1)", prover.traps(1), 10);
        CHECK.due("traps(2)", prover.traps(2), 0);
        // Runs that come together at one state count it once.
        TrapProver joined = Check.program(Ops.SETX, 1, Ops.SETY, 0, Ops.DIV, 0);
        CHECK.due("joined: traps(2)", joined.traps(2), 1);
    }

    private static void trapsFromNoneToAll() {
        CHECK.sentence("Promise 9: How many trap: none, one and all of them");
        int[][] edges = {{0, 256}, {1, 240}, {15, 16}, {16, 0}, {31, 0}, {32, 256}, {47, 16}, {-1, 0}};
        TrapProver prover = Check.program(Ops.INDEX, 3);
        for (int[] edge : edges) {
            prover.patch(0, edge[0]);
            CHECK.due("traps(0) with INDEX " + edge[0], prover.traps(0), edge[1]);
        }
        TrapProver last = Check.repeated(15, Ops.SWAP, 0);
        last.emit(Ops.DIV, 0);
        CHECK.due("traps(15) of all", last.traps(15), 16);
        last.begin(0, 0, 1);
        CHECK.due("traps(15) with x from 0 to 1", last.traps(15), 16);
        last.begin(1, 9, 9);
        CHECK.due("traps(15) with y 9 alone", last.traps(15), 1);
        last.begin(0, 1, 1);
        CHECK.due("traps(15) with x 1 alone", last.traps(15), 0);
        // No op but DIV and INDEX traps.
        for (int op = Ops.SETX; op <= Ops.HALT; op++) {
            if (op != Ops.DIV && op != Ops.INDEX) {
                CHECK.due("traps(0) of op " + op, Check.program(op, 0).traps(0), 0);
            }
        }
    }

    private static void trapsOfPossibleStatesAlone() {
        CHECK.sentence("Promise 9: How many possible states: not one that no run comes to");
        TrapProver prover = Check.program(Ops.INDEX, 0, Ops.HALT, 0, Ops.DIV, 0);
        CHECK.due("traps(2), never reached", prover.traps(2), 0);
        CHECK.due("traps(0) before begin", prover.traps(0), 256);
        prover.begin(0, 4, 6);
        CHECK.due("traps(0) after begin", prover.traps(0), 48);
        prover.begin(1, 2, 2);
        CHECK.due("traps(0) after begin of y", prover.traps(0), 3);
    }

    private static void soonestIsZeroAtZero() {
        CHECK.sentence("Promise 11: (0 for instruction 0)");
        for (int length = 1; length <= 16; length++) {
            CHECK.due("soonest(0) of " + length, Check.repeated(length, Ops.ADD, 0).soonest(0), 0);
        }
        // Coming back to instruction 0 does not count: every run is there at first.
        TrapProver loop = Check.program(Ops.JUMP, 1, Ops.JUMP, 0);
        CHECK.due("loop: soonest(0)", loop.soonest(0), 0);
        CHECK.due("trap: soonest(0)", Check.program(Ops.INDEX, 0).soonest(0), 0);
        CHECK.due("HALT: soonest(0)", Check.program(Ops.HALT, 0).soonest(0), 0);
    }

    private static void soonestIsLeast() {
        CHECK.sentence("Promise 11: The least number of instructions that a run carries out"
            + " before it comes to p for the first time");
        TrapProver prover = Check.program(
            Ops.JZ, 3, Ops.SETX, 5, Ops.SETY, 1, Ops.ADDC, 1, Ops.HALT, 0);
        int[] due = {0, 1, 2, 1, 2};
        for (int p = 0; p < due.length; p++) {
            CHECK.due("soonest(" + p + ")", prover.soonest(p), due[p]);
        }
        prover.begin(0, 1, 15);
        CHECK.due("soonest(3) without x 0", prover.soonest(3), 3);
        CHECK.due("soonest(4) without x 0", prover.soonest(4), 4);
        // The long way comes to the least x and y, the short way to greater ones.
        TrapProver ways = Check.program(Ops.JLT, 3, Ops.SETX, 0, Ops.SETY, 0, Ops.HALT, 0);
        CHECK.due("ways: soonest(3)", ways.soonest(3), 1);
        ways.begin(1, 0, 0);
        CHECK.due("ways: soonest(3) without the short one", ways.soonest(3), 3);
        TrapProver straight = Check.repeated(16, Ops.ADDC, 1);
        for (int p = 0; p < 16; p++) {
            CHECK.due("straight: soonest(" + p + ")", straight.soonest(p), p);
        }
    }

    /** Counts x and y through all 256 pairs before it comes to the last instruction. */
    private static void soonestOfALongRun() {
        CHECK.sentence("Promise 11: The least number of instructions: of a long run");
        TrapProver prover = Check.from(counter(), 0, 0);
        // x goes round in 15 * 3 + 2 steps, y up by one in 3, and back to the start in 2; y
        // goes round in sixteen such turns, the last without the way back.
        CHECK.due("counter: soonest(9)", prover.soonest(9), 16 * (15 * 3 + 2 + 3) + 15 * 2);
        CHECK.due("counter: states(0)", prover.states(0), 256);
        CHECK.due("counter: canRunForever", prover.canRunForever(), false);
        CHECK.due("counter: endless", prover.endless(), 0);
        CHECK.due("counter: canEnd", prover.canEnd(), true);
        TrapProver every = counter();
        CHECK.due("counter from all: soonest(9)", every.soonest(9), 5);
        CHECK.due("counter from all: endless", every.endless(), 0);
        every.patch(5, 0);
        CHECK.due("counter without end: canEnd", every.canEnd(), false);
        CHECK.due("counter without end: soonest(9)", every.soonest(9), TrapProver.NEVER);
    }

    private static TrapProver counter() {
        return Check.program(
            Ops.ADDC, 1, Ops.JZ, 3, Ops.JUMP, 0, Ops.SWAP, 0, Ops.ADDC, 1, Ops.JZ, 9,
            Ops.SWAP, 0, Ops.JUMP, 0, Ops.HALT, 0, Ops.HALT, 0);
    }

    private static void soonestRefusesPlaces() {
        CHECK.sentence("Promise 11: BAD_PLACE");
        for (int length = 0; length <= 16; length++) {
            TrapProver prover = Check.repeated(length, Ops.SWAP, 0);
            for (int p : new int[] {-1, length, 16, MIN, MAX}) {
                String call = "soonest(" + p + ") of " + length;
                CHECK.due(call, prover.soonest(p), TrapProver.BAD_PLACE);
            }
            if (length > 0) {
                CHECK.due("soonest of the last", prover.soonest(length - 1), length - 1);
            }
        }
    }

    private static void soonestIsNever() {
        CHECK.sentence("Promise 11: NEVER if no run comes to p");
        TrapProver over = Check.program(Ops.JUMP, 2, Ops.HALT, 0, Ops.HALT, 0);
        CHECK.due("jumped over", over.soonest(1), TrapProver.NEVER);
        CHECK.due("jumped to", over.soonest(2), 1);
        TrapProver trap = Check.program(Ops.INDEX, 0, Ops.HALT, 0);
        CHECK.due("behind a trap", trap.soonest(1), TrapProver.NEVER);
        trap.patch(0, 1);
        CHECK.due("behind a trap that x 0 passes", trap.soonest(1), 1);
        CHECK.due("behind HALT", Check.program(Ops.HALT, 0, Ops.SWAP, 0).soonest(1), TrapProver.NEVER);
        TrapProver last = Check.repeated(15, Ops.JUMP, 0);
        last.emit(Ops.HALT, 0);
        CHECK.due("the sixteenth", last.soonest(15), TrapProver.NEVER);
        last.patch(0, 15);
        CHECK.due("the sixteenth, jumped to", last.soonest(15), 1);
    }
}

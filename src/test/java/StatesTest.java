/** Promises 6 to 9 and 11: states, possible, values, traps and soonest, with the order of 15. */
public final class StatesTest {
    private static final int[] NO_PLACES = {-1, 16, 17, Integer.MIN_VALUE, Integer.MAX_VALUE};

    private static final Check CHECK = new Check();

    public static void main(String[] args) {
        badPlaces(new TrapProver(), 0);
        badPlaces(Check.program(Ops.HALT, 0), 1);
        badPlaces(Check.program(Ops.JUMP, 2, Ops.DIV, 0, Ops.READ, 0), 3);
        statesAreCounted();
        possibleRefusesValues();
        valuesAreMasks();
        trapsAreCounted();
        soonestIsLeast();
        soonestOfALongRun();
        questionsChangeNothing();
        CHECK.end();
    }

    private static void badPlaces(TrapProver prover, int length) {
        for (int p : NO_PLACES) {
            badPlace(prover, p);
        }
        for (int p = length; p < 16; p++) {
            badPlace(prover, p);
        }
    }

    private static void badPlace(TrapProver prover, int p) {
        CHECK.due("states(" + p + ")", prover.states(p), TrapProver.BAD_PLACE);
        CHECK.due("traps(" + p + ")", prover.traps(p), TrapProver.BAD_PLACE);
        CHECK.due("soonest(" + p + ")", prover.soonest(p), TrapProver.BAD_PLACE);
        CHECK.due("possible(" + p + ", 0, 0)", prover.possible(p, 0, 0), false);
        for (int register = -1; register <= 2; register++) {
            String call = "values(" + p + ", " + register + ")";
            CHECK.due(call, prover.values(p, register), TrapProver.BAD_PLACE);
        }
    }

    private static void statesAreCounted() {
        TrapProver prover =
            Check.program(Ops.JLT, 2, Ops.HALT, 0, Ops.SETY, 4, Ops.JUMP, 5, Ops.ADD, 0, Ops.MUL, 0);
        int[] due = {256, 136, 120, 15, 0, 15};
        for (int p = 0; p < due.length; p++) {
            CHECK.due("states(" + p + ")", prover.states(p), due[p]);
        }
        // Runs that come together at one state count it once.
        TrapProver joined = Check.program(Ops.SETX, 1, Ops.SETY, 2, Ops.JUMP, 2);
        CHECK.due("joined: states(1)", joined.states(1), 16);
        CHECK.due("joined: states(2)", joined.states(2), 1);
    }

    private static void possibleRefusesValues() {
        TrapProver prover = Check.program(Ops.READ, 0, Ops.ADD, 0, Ops.JUMP, 0);
        for (int p = 0; p < 3; p++) {
            CHECK.due("possible(" + p + ", 0, 0)", prover.possible(p, 0, 0), true);
            CHECK.due("possible(" + p + ", 15, 15)", prover.possible(p, 15, 15), true);
            for (int v : new int[] {-1, 16, -16, 31, Integer.MIN_VALUE, Integer.MAX_VALUE}) {
                CHECK.due("possible(" + p + ", " + v + ", 0)", prover.possible(p, v, 0), false);
                CHECK.due("possible(" + p + ", 1, " + v + ")", prover.possible(p, 1, v), false);
            }
        }
        TrapProver one = Check.from(Check.program(Ops.SWAP, 0, Ops.HALT, 0), 4, 9);
        CHECK.due("one: possible(0, 4, 9)", one.possible(0, 4, 9), true);
        CHECK.due("one: possible(0, 9, 4)", one.possible(0, 9, 4), false);
        CHECK.due("one: possible(1, 4, 9)", one.possible(1, 4, 9), false);
        CHECK.due("one: possible(1, 9, 4)", one.possible(1, 9, 4), true);
    }

    private static void valuesAreMasks() {
        TrapProver prover = Check.program(Ops.MUL, 0, Ops.SETX, 15, Ops.HALT, 0, Ops.HALT, 0);
        prover.begin(0, 2, 3);
        prover.begin(1, 0, 2);
        CHECK.due("values(0, 0)", prover.values(0, 0), 0b1100);
        CHECK.due("values(0, 1)", prover.values(0, 1), 0b111);
        CHECK.due("values(1, 0)", prover.values(1, 0), 0b1011101);
        CHECK.due("values(1, 1)", prover.values(1, 1), 0b111);
        CHECK.due("values(2, 0)", prover.values(2, 0), 0x8000);
        CHECK.due("values(3, 0)", prover.values(3, 0), 0);
        CHECK.due("values(3, 1)", prover.values(3, 1), 0);
        for (int register : new int[] {-1, 2, Integer.MIN_VALUE, Integer.MAX_VALUE}) {
            for (int p = 0; p < 4; p++) {
                String call = "values(" + p + ", " + register + ")";
                CHECK.due(call, prover.values(p, register), TrapProver.BAD_RANGE);
            }
        }
    }

    private static void trapsAreCounted() {
        TrapProver prover = Check.program(Ops.INDEX, 10, Ops.DIV, 0, Ops.HALT, 0, Ops.DIV, 0);
        CHECK.due("traps(0)", prover.traps(0), 96);
        CHECK.due("traps(1)", prover.traps(1), 10);
        CHECK.due("traps(2)", prover.traps(2), 0);
        CHECK.due("traps(3), never reached", prover.traps(3), 0);
        int[][] edges = {{0, 256}, {1, 240}, {15, 16}, {16, 0}, {31, 0}, {32, 256}, {-1, 0}, {47, 16}};
        for (int[] edge : edges) {
            prover.patch(0, edge[0]);
            CHECK.due("traps(0) with INDEX " + edge[0], prover.traps(0), edge[1]);
        }
        // States that trapped before a change are not counted when they are no longer possible.
        prover.patch(0, 0);
        CHECK.due("traps(0) before begin", prover.traps(0), 256);
        prover.begin(0, 4, 6);
        CHECK.due("traps(0) after begin", prover.traps(0), 48);
        CHECK.due("traps(1) after begin", prover.traps(1), 0);
        // A state that traps is possible where it traps, and leads nowhere.
        TrapProver zero = Check.from(Check.program(Ops.DIV, 0, Ops.HALT, 0), 7, 0);
        CHECK.due("zero: states(0)", zero.states(0), 1);
        CHECK.due("zero: states(1)", zero.states(1), 0);
        CHECK.due("zero: traps(0)", zero.traps(0), 1);
    }

    private static void soonestIsLeast() {
        TrapProver prover = Check.program(
            Ops.JZ, 3, Ops.SETX, 5, Ops.SETY, 1, Ops.ADDC, 1, Ops.HALT, 0, Ops.JUMP, 0);
        int[] due = {0, 1, 2, 1, 2, TrapProver.NEVER};
        for (int p = 0; p < due.length; p++) {
            CHECK.due("soonest(" + p + ")", prover.soonest(p), due[p]);
        }
        prover.begin(0, 1, 15);
        CHECK.due("soonest(3) without x 0", prover.soonest(3), 3);
        CHECK.due("soonest(4) without x 0", prover.soonest(4), 4);
        // The long way comes to the least x and y, the short way to greater ones.
        TrapProver ways = Check.program(Ops.JLT, 3, Ops.SETX, 0, Ops.SETY, 0, Ops.HALT, 0);
        CHECK.due("ways: soonest(3)", ways.soonest(3), 1);
        ways.begin(1, 0, 0);
        CHECK.due("ways: soonest(3) without the short one", ways.soonest(3), 3);
        // Coming back to instruction 0 does not count: every run is there at first.
        TrapProver loop = Check.program(Ops.JUMP, 1, Ops.JUMP, 0);
        CHECK.due("loop: soonest(0)", loop.soonest(0), 0);
        CHECK.due("loop: soonest(1)", loop.soonest(1), 1);
        TrapProver trap = Check.program(Ops.INDEX, 0, Ops.HALT, 0);
        CHECK.due("trap: soonest(1)", trap.soonest(1), TrapProver.NEVER);
    }

    /** Counts x and y through all 256 pairs before it comes to the last instruction. */
    private static void soonestOfALongRun() {
        TrapProver prover = Check.from(counter(), 0, 0);
        // x goes round in 15 * 3 + 2 steps, y up by one in 3, and back to the start in 2; y
        // goes round in sixteen such turns, the last without the way back.
        CHECK.due("counter: soonest(9)", prover.soonest(9), 16 * (15 * 3 + 2 + 3) + 15 * 2);
        CHECK.due("counter: states(0)", prover.states(0), 256);
        CHECK.due("counter: canRunForever", prover.canRunForever(), false);
        CHECK.due("counter: endless", prover.endless(), 0);
        CHECK.due("counter: canEnd", prover.canEnd(), true);
        TrapProver every = counter();
        CHECK.due("counter from all: soonest(9)", every.soonest(9), 5);
        CHECK.due("counter from all: endless", every.endless(), 0);
        every.patch(5, 0);
        CHECK.due("counter without end: canEnd", every.canEnd(), false);
        CHECK.due("counter without end: soonest(9)", every.soonest(9), TrapProver.NEVER);
    }

    private static TrapProver counter() {
        return Check.program(
            Ops.ADDC, 1, Ops.JZ, 3, Ops.JUMP, 0, Ops.SWAP, 0, Ops.ADDC, 1, Ops.JZ, 9,
            Ops.SWAP, 0, Ops.JUMP, 0, Ops.HALT, 0, Ops.HALT, 0);
    }

    private static void questionsChangeNothing() {
        TrapProver prover = Check.program(Ops.READ, 0, Ops.DIV, 0, Ops.JZ, 0, Ops.INDEX, 3);
        for (int round = 0; round < 3; round++) {
            CHECK.due("states(0)", prover.states(0), 256);
            CHECK.due("traps(1)", prover.traps(1), 16);
            CHECK.due("states(2)", prover.states(2), 60);
            CHECK.due("values(2, 1)", prover.values(2, 1), 0xFFFE);
            CHECK.due("possible(2, 7, 2)", prover.possible(2, 7, 2), true);
            CHECK.due("possible(2, 8, 2)", prover.possible(2, 8, 2), false);
            CHECK.due("soonest(3)", prover.soonest(3), 3);
            CHECK.due("safe()", prover.safe(), false);
            CHECK.due("canEnd()", prover.canEnd(), true);
            CHECK.due("canRunForever()", prover.canRunForever(), true);
        }
    }
}

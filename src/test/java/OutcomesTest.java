/** Promises 10 and 12 to 14: safe, canEnd, canRunForever, endless; a test for each sentence. */
public final class OutcomesTest {
    private static final int MAX = Integer.MAX_VALUE;
    private static final int MIN = Integer.MIN_VALUE;

    private static final Check CHECK = new Check();

    public static void main(String[] args) {
        CHECK.each(
            OutcomesTest::safeIfNoRunTraps, OutcomesTest::notSafeIfOneRunTraps,
            OutcomesTest::canEndInEachWay, OutcomesTest::canEndIfOneRunDoes,
            OutcomesTest::trapIsNoEnd, OutcomesTest::canRunForeverInLoops,
            OutcomesTest::canRunForeverIfOneRunDoes, OutcomesTest::loopThatIsLeftIsNone,
            OutcomesTest::readChoosesFreely, OutcomesTest::endlessFromNoneToAll,
            OutcomesTest::endlessCountsTheWayToALoop,
            OutcomesTest::endlessCountsPossibleStatesAlone, OutcomesTest::changesAreSeen);
    }

    private static void outcomes(
            String name, TrapProver prover, boolean safe, boolean canEnd, int endless) {
        CHECK.due(name + ": safe", prover.safe(), safe);
        CHECK.due(name + ": canEnd", prover.canEnd(), canEnd);
        CHECK.due(name + ": canRunForever", prover.canRunForever(), endless > 0);
        CHECK.due(name + ": endless", prover.endless(), endless);
    }

    private static void safeIfNoRunTraps() {
        CHECK.sentence("Promise 10: Whether no run traps anywhere");
        outcomes("INDEX 16", Check.program(Ops.INDEX, 16), true, true, 0);
        outcomes("SETY 1, DIV", Check.program(Ops.SETY, 17, Ops.DIV, 0), true, true, 0);
        // A DIV that no run comes to traps nothing.
        outcomes("DIV apart", Check.program(Ops.HALT, 0, Ops.DIV, 0), true, true, 0);
        TrapProver narrow = Check.program(Ops.DIV, 0);
        narrow.begin(1, 1, 15);
        outcomes("DIV without y 0", narrow, true, true, 0);
        TrapProver low = Check.program(Ops.INDEX, 15);
        low.begin(0, 0, 14);
        outcomes("INDEX 15 without x 15", low, true, true, 0);
    }

    private static void notSafeIfOneRunTraps() {
        CHECK.sentence("Promise 10: Whether no run traps anywhere: one that does");
        outcomes("INDEX 0", Check.program(Ops.INDEX, 0), false, false, 0);
        outcomes("INDEX 15", Check.program(Ops.INDEX, 15), false, true, 0);
        outcomes("DIV", Check.program(Ops.DIV, 0), false, true, 0);
        outcomes("SETY 0, DIV", Check.program(Ops.SETY, 16, Ops.DIV, 0), false, false, 0);
        outcomes("READ, DIV", Check.program(Ops.READ, 0, Ops.DIV, 0), false, true, 0);
        // One state alone traps, and it does so at the last place that there can be.
        TrapProver last = Check.repeated(15, Ops.SETX, 9);
        last.emit(Ops.DIV, 0);
        CHECK.due("traps at the last", last.traps(15), 1);
        outcomes("DIV at the last", last, false, true, 0);
        last.begin(1, 1, 15);
        outcomes("DIV at the last without y 0", last, true, true, 0);
    }

    private static void canEndInEachWay() {
        CHECK.sentence("Promise 12: Whether some run ends without a trap");
        outcomes("HALT", Check.program(Ops.HALT, 0), true, true, 0);
        outcomes("past the last", Check.program(Ops.SETX, 0), true, true, 0);
        outcomes("READ past the last", Check.program(Ops.READ, 0), true, true, 0);
        outcomes("JUMP past the last", Check.program(Ops.JUMP, 1), true, true, 0);
        outcomes("JUMP below 0", Check.program(Ops.JUMP, -1), true, true, 0);
        outcomes("JUMP far", Check.program(Ops.JUMP, MAX), true, true, 0);
        outcomes("JUMP far below", Check.program(Ops.JUMP, MIN), true, true, 0);
        outcomes("JUMP by no mask", Check.program(Ops.JUMP, 16), true, true, 0);
        outcomes("past the sixteenth", Check.repeated(16, Ops.SWAP, 0), true, true, 0);
    }

    private static void canEndIfOneRunDoes() {
        CHECK.sentence("Promise 12: Whether some run ends: one that does, and none");
        // x 0 and y 15 alone get through to 3; the others stay at 2.
        TrapProver prover = Check.program(
            Ops.JZ, 3, Ops.SETX, 0, Ops.JUMP, 2, Ops.SWAP, 0, Ops.ADDC, 1, Ops.JZ, 7, Ops.JUMP, 2,
            Ops.HALT, 0);
        CHECK.due("with y 15", prover.canEnd(), true);
        prover.begin(1, 0, 14);
        CHECK.due("without y 15", prover.canEnd(), false);
        prover.begin(1, 15, 15);
        prover.begin(0, 1, 15);
        CHECK.due("without x 0", prover.canEnd(), false);
        // A HALT that no run comes to ends nothing.
        outcomes("HALT apart", Check.program(Ops.JUMP, 0, Ops.HALT, 0), true, false, 256);
    }

    private static void trapIsNoEnd() {
        CHECK.sentence("Promise 12: without a trap");
        outcomes("INDEX 0", Check.program(Ops.INDEX, 0), false, false, 0);
        outcomes("INDEX 1", Check.program(Ops.INDEX, 1), false, true, 0);
        outcomes("INDEX 0, HALT", Check.program(Ops.INDEX, 0, Ops.HALT, 0), false, false, 0);
        TrapProver zero = Check.program(Ops.DIV, 0);
        zero.begin(1, 0, 0);
        outcomes("DIV with y 0", zero, false, false, 0);
        zero.begin(1, 0, 1);
        outcomes("DIV with y 0 and 1", zero, false, true, 0);
    }

    private static void canRunForeverInLoops() {
        CHECK.sentence("Promise 13: Whether some run never ends");
        outcomes("JUMP to itself", Check.program(Ops.JUMP, 0), true, false, 256);
        outcomes("JEQ to itself", Check.program(Ops.JEQ, 0), true, true, 16);
        outcomes("JLT to itself", Check.program(Ops.JLT, 0), true, true, 120);
        outcomes("JZ to itself", Check.program(Ops.JZ, 0), true, true, 16);
        // x goes round, yet every run goes on.
        outcomes("round", Check.program(Ops.ADDC, 1, Ops.JUMP, 0), true, false, 512);
        outcomes("INDEX in a loop",
            Check.program(Ops.INDEX, 3, Ops.JUMP, 0), false, false, 2 * 48);
        // The loop goes through the last place that there can be.
        TrapProver last = Check.repeated(15, Ops.SETX, 4);
        last.emit(Ops.JUMP, 15);
        outcomes("the sixteenth to itself", last, true, false, 256 + 15 * 16);
        last.patch(15, 16);
        outcomes("the sixteenth out", last, true, true, 0);
    }

    private static void canRunForeverIfOneRunDoes() {
        CHECK.sentence("Promise 13: Whether some run never ends: one of them");
        TrapProver prover = Check.from(Check.program(Ops.JEQ, 0, Ops.HALT, 0), 15, 15);
        outcomes("one run", prover, true, false, 1);
        prover.begin(1, 14, 15);
        outcomes("one run of two", prover, true, true, 1);
        prover.begin(1, 14, 14);
        outcomes("the other run", prover, true, true, 0);
    }

    private static void loopThatIsLeftIsNone() {
        CHECK.sentence("Promise 13: Whether some run never ends: not if each leaves the loop");
        outcomes("down to 0", Check.program(Ops.JZ, 3, Ops.ADDC, -1, Ops.JUMP, 0), true, true, 0);
        // An odd y comes to x == 0 at last; an even y may pass it by.
        TrapProver strides = Check.program(Ops.JZ, 3, Ops.SUB, 0, Ops.JUMP, 0);
        strides.begin(1, 2, 2);
        outcomes("strides of 2", strides, true, true, 24);
        strides.begin(1, 3, 3);
        outcomes("strides of 3", strides, true, true, 0);
        // The last time round, it traps instead.
        TrapProver trapped = Check.program(Ops.ADDC, 1, Ops.INDEX, 15, Ops.JUMP, 0);
        outcomes("up to a trap", trapped, false, false, 0);
    }

    private static void readChoosesFreely() {
        CHECK.sentence("Promise 13: Whether some run never ends: READ gives any y each time");
        // Of the sixteen choices only y == x goes on.
        TrapProver choice = Check.from(Check.program(Ops.READ, 0, Ops.JEQ, 0), 5, 5);
        outcomes("READ for ever", choice, true, true, 1 + 1);
        choice.begin(1, 4, 5);
        outcomes("READ for ever from two", choice, true, true, 2 + 1);
        TrapProver greatest = Check.from(
            Check.program(Ops.SETX, 14, Ops.READ, 0, Ops.JLT, 1), 0, 0);
        outcomes("READ of 15 for ever", greatest, true, true, 1 + 2 + 1);
        TrapProver least = Check.from(
            Check.program(Ops.READ, 0, Ops.SWAP, 0, Ops.JZ, 0), 7, 7);
        outcomes("READ of 0 for ever", least, true, true, 3 + 2 + 2);
        // Each choice ends.
        outcomes("READ and HALT", Check.program(Ops.READ, 0, Ops.HALT, 0), true, true, 0);
    }

    private static void endlessFromNoneToAll() {
        CHECK.sentence("Promise 14: How many possible states, at all instructions together");
        outcomes("none", Check.program(Ops.HALT, 0), true, true, 0);
        outcomes("one", Check.from(Check.program(Ops.JUMP, 0), 0, 15), true, false, 1);
        for (int length = 1; length <= 16; length++) {
            TrapProver all = Check.repeated(length - 1, Ops.SWAP, 0);
            all.emit(Ops.JUMP, 0);
            outcomes("all of " + length, all, true, false, 256 * length);
        }
    }

    private static void endlessCountsTheWayToALoop() {
        CHECK.sentence("Promise 14: states that a run can come from to never ending");
        // 0 to 2 lead to the loop at 3; 4 ends, and the runs that go there are not counted.
        TrapProver prover = Check.from(
            Check.program(Ops.READ, 0, Ops.JZ, 4, Ops.ADD, 0, Ops.JUMP, 3, Ops.HALT, 0), 1, 0);
        outcomes("a way to a loop", prover, true, false, 1 + 16 + 16 + 16);
        prover.begin(0, 0, 1);
        outcomes("a way and a way out", prover, true, true, 1 + 16 + 16 + 16);
        prover.patch(3, 9);
        outcomes("the loop cut", prover, true, true, 0);
        // A state that can end as well as go on is counted too: at 0, one y of sixteen goes on.
        TrapProver either = Check.from(
            Check.program(Ops.READ, 0, Ops.JEQ, 3, Ops.HALT, 0, Ops.JUMP, 3), 6, 2);
        outcomes("either way", either, true, true, 1 + 1 + 1);
    }

    private static void endlessCountsPossibleStatesAlone() {
        CHECK.sentence("Promise 14: How many possible states: not one that no run comes to");
        outcomes("a loop apart", Check.program(Ops.HALT, 0, Ops.JUMP, 1), true, true, 0);
        TrapProver some = Check.program(Ops.JUMP, 0);
        some.begin(0, 3, 5);
        outcomes("a narrow range", some, true, false, 48);
        some.begin(1, 3, 3);
        outcomes("a narrower range", some, true, false, 3);
    }

    private static void changesAreSeen() {
        CHECK.sentence("Promises 10 and 12 to 14: of the program and the ranges as they are now");
        TrapProver prover = Check.program(Ops.JZ, 0);
        outcomes("at first", prover, true, true, 16);
        prover.begin(0, 1, 15);
        outcomes("after begin", prover, true, true, 0);
        prover.emit(Ops.DIV, 0);
        outcomes("after emit", prover, false, true, 0);
        prover.begin(0, 0, 0);
        outcomes("after begin again", prover, true, false, 16);
        prover.patch(0, 1);
        outcomes("after patch", prover, false, true, 0);
        prover.clear();
        outcomes("after clear", prover, true, false, 0);
    }
}

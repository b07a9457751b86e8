import java.util.Map;

/** Promise 15 and the 512 calls that an object is used for, a test for each sentence. */
public final class LimitsTest {
    private static final int MAX = Integer.MAX_VALUE;
    private static final int MIN = Integer.MIN_VALUE;
    private static final int CALLS = 512;

    private static final Check CHECK = new Check();

    public static void main(String[] args) {
        CHECK.each(
            LimitsTest::badOpBeforeFull, LimitsTest::badPlaceBeforeNever,
            LimitsTest::noInstructionsNoEnd, LimitsTest::noInstructionsSafe,
            LimitsTest::fiveHundredAndTwelveEmits, LimitsTest::fiveHundredAndTwelvePatches,
            LimitsTest::fiveHundredAndTwelveRanges, LimitsTest::fiveHundredAndTwelveRefusals,
            LimitsTest::fiveHundredAndTwelveQuestions);
    }

    private static void badOpBeforeFull() {
        CHECK.sentence("Promise 15: emit: BAD_OP is tested before FULL");
        TrapProver fifteen = Check.repeated(15, Ops.SWAP, 0);
        CHECK.due("emit(15, 0) with fifteen", fifteen.emit(15, 0), TrapProver.BAD_OP);
        for (int op : new int[] {-1, 15, 16, MIN, MAX}) {
            Answers.refused(CHECK, "emit(" + op + ", 0) with sixteen",
                () -> Check.repeated(16, Ops.ADDC, 3), prover -> prover.emit(op, 0),
                TrapProver.BAD_OP);
        }
        TrapProver sixteen = Check.repeated(16, Ops.SWAP, 0);
        CHECK.due("emit(0, 0) with sixteen", sixteen.emit(0, 0), TrapProver.FULL);
        CHECK.due("emit(14, 0) with sixteen", sixteen.emit(14, 0), TrapProver.FULL);
    }

    private static void badPlaceBeforeNever() {
        CHECK.sentence("Promise 15: soonest: BAD_PLACE is tested before NEVER");
        // Runs come to none of these places but 0, and those from 3 on are no places at all.
        TrapProver prover = Check.program(Ops.HALT, 0, Ops.HALT, 0, Ops.HALT, 0);
        int[] due = {0, TrapProver.NEVER, TrapProver.NEVER, TrapProver.BAD_PLACE};
        for (int p = 0; p < due.length; p++) {
            CHECK.due("soonest(" + p + ")", prover.soonest(p), due[p]);
        }
        for (int p : new int[] {-1, 15, 16, MIN, MAX}) {
            CHECK.due("soonest(" + p + ")", prover.soonest(p), TrapProver.BAD_PLACE);
            CHECK.due("new: soonest(" + p + ")", new TrapProver().soonest(p), TrapProver.BAD_PLACE);
        }
        CHECK.due("new: soonest(0)", new TrapProver().soonest(0), TrapProver.BAD_PLACE);
        prover.clear();
        CHECK.due("cleared: soonest(0)", prover.soonest(0), TrapProver.BAD_PLACE);
        CHECK.due("cleared: soonest(1)", prover.soonest(1), TrapProver.BAD_PLACE);
    }

    private static void noInstructionsNoEnd() {
        CHECK.sentence("Promise 15: canEnd: false if there are no instructions");
        CHECK.due("new", new TrapProver().canEnd(), false);
        TrapProver prover = new TrapProver();
        prover.emit(15, 0);
        CHECK.due("after a refused emit", prover.canEnd(), false);
        prover.emit(Ops.HALT, 0);
        CHECK.due("with one", prover.canEnd(), true);
        prover.clear();
        CHECK.due("cleared", prover.canEnd(), false);
        TrapProver ranged = new TrapProver();
        ranged.begin(0, 3, 3);
        CHECK.due("with a range", ranged.canEnd(), false);
    }

    private static void noInstructionsSafe() {
        CHECK.sentence("Promise 15: (no run is there then; safe is true)");
        CHECK.due("new: safe", new TrapProver().safe(), true);
        CHECK.due("new: canRunForever", new TrapProver().canRunForever(), false);
        CHECK.due("new: endless", new TrapProver().endless(), 0);
        TrapProver prover = Check.program(Ops.INDEX, 0);
        CHECK.due("with a trap: safe", prover.safe(), false);
        prover.clear();
        CHECK.due("cleared: safe", prover.safe(), true);
        TrapProver unasked = Check.program(Ops.JUMP, 0);
        unasked.clear();
        CHECK.due("cleared: canRunForever", unasked.canRunForever(), false);
        CHECK.due("cleared: endless", unasked.endless(), 0);
    }

    private static void fiveHundredAndTwelveEmits() {
        CHECK.sentence("An object is used for at most 512 calls: emit and clear");
        TrapProver prover = new TrapProver();
        int length = 0;
        for (int call = 1; call <= CALLS; call++) {
            if (call % 19 == 0) {
                prover.clear();
                length = 0;
            } else {
                int due = length == 16 ? TrapProver.FULL : length;
                CHECK.due("call " + call + ": emit", prover.emit(call % 15, call), due);
                length = length == 16 ? 16 : length + 1;
            }
        }
    }

    private static void fiveHundredAndTwelvePatches() {
        CHECK.sentence("An object is used for at most 512 calls: patch");
        TrapProver prover = Check.program(Ops.SETX, 2, Ops.HALT, 0);
        int old = 2;
        for (int call = 3; call <= CALLS; call += 2) {
            CHECK.due("call " + call + ": patch", prover.patch(0, call), old);
            old = call;
            if (call < CALLS) {
                CHECK.due("call " + (call + 1) + ": x", prover.values(1, 0), 1 << (call & 15));
            }
        }
    }

    private static void fiveHundredAndTwelveRanges() {
        CHECK.sentence("An object is used for at most 512 calls: begin");
        TrapProver prover = Check.repeated(16, Ops.JUMP, 0);
        for (int call = 17; call < CALLS; call += 3) {
            int low = call % 16;
            CHECK.due("call " + call + ": begin", prover.begin(call % 2, low, 15), 0);
            int mask = 0xFFFF & -(1 << low);
            CHECK.due("call " + call + ": values", prover.values(0, call % 2), mask);
            CHECK.due("call " + call + ": safe", prover.safe(), true);
        }
        // x from 10 since call 506, y from 13 since call 509.
        CHECK.due("call 512: states(0)", prover.states(0), 6 * 3);
    }

    private static void fiveHundredAndTwelveRefusals() {
        CHECK.sentence("An object is used for at most 512 calls: refused ones");
        TrapProver prover = new TrapProver();
        for (int call = 1; call < CALLS - 5; call += 5) {
            CHECK.due("call " + call + ": emit", prover.emit(15, 0), TrapProver.BAD_OP);
            CHECK.due("call " + call + ": patch", prover.patch(0, 1), TrapProver.BAD_PLACE);
            CHECK.due("call " + call + ": begin", prover.begin(2, 0, 0), TrapProver.BAD_RANGE);
            CHECK.due("call " + call + ": states", prover.states(0), TrapProver.BAD_PLACE);
            CHECK.due("call " + call + ": canEnd", prover.canEnd(), false);
        }
        CHECK.due("at last: emit", prover.emit(Ops.READ, 0), 0);
        CHECK.due("at last: states", prover.states(0), 256);
    }

    private static void fiveHundredAndTwelveQuestions() {
        CHECK.sentence("An object is used for at most 512 calls: questions");
        TrapProver prover = Check.mixed();
        Map<String, Long> want = Answers.ofQuestions(Check.mixed());
        int made = 6;
        for (; made + want.size() <= CALLS; made += want.size()) {
            CHECK.same("from call " + (made + 1), Answers.ofQuestions(prover), want);
        }
        for (; made < CALLS; made++) {
            CHECK.due("call " + (made + 1) + ": endless", prover.endless(), want.get("endless()"));
        }
    }
}

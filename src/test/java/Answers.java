import java.util.LinkedHashMap;
import java.util.Map;
import java.util.function.Supplier;
import java.util.function.ToIntFunction;

/** What an object answers to all kinds of calls, to tell whether two objects are alike. */
final class Answers {
    private Answers() {
    }

    /**
     * Makes a call that must be refused, once on an object that was asked before and once on one
     * that was not; afterwards both must answer as one that never got the call.
     */
    static void refused(
            Check check, String call, Supplier<TrapProver> make,
            ToIntFunction<TrapProver> refusal, int due) {
        Map<String, Long> want = ofAll(make.get());
        for (boolean asked : new boolean[] {false, true}) {
            TrapProver prover = make.get();
            if (asked) {
                ofQuestions(prover);
            }
            check.due(call, refusal.applyAsInt(prover), due);
            check.same("after " + call, ofAll(prover), want);
        }
    }

    /** The answers to the questions alone, which leave the object as it is; 130 calls. */
    static Map<String, Long> ofQuestions(TrapProver prover) {
        Map<String, Long> answers = new LinkedHashMap<>();
        for (int p = -1; p <= 16; p++) {
            answers.put("states(" + p + ")", (long) prover.states(p));
            answers.put("possible(" + p + ", 0, 0)", prover.possible(p, 0, 0) ? 1L : 0L);
            answers.put("possible(" + p + ", 15, 15)", prover.possible(p, 15, 15) ? 1L : 0L);
            answers.put("values(" + p + ", 0)", (long) prover.values(p, 0));
            answers.put("values(" + p + ", 1)", (long) prover.values(p, 1));
            answers.put("traps(" + p + ")", (long) prover.traps(p));
            answers.put("soonest(" + p + ")", (long) prover.soonest(p));
        }
        answers.put("safe()", prover.safe() ? 1L : 0L);
        answers.put("canEnd()", prover.canEnd() ? 1L : 0L);
        answers.put("canRunForever()", prover.canRunForever() ? 1L : 0L);
        answers.put("endless()", (long) prover.endless());
        return answers;
    }

    /**
     * Questions, numbers of the instructions, ranges and length; spends the object, since some of
     * it shows only in a change. At most 300 calls, so that an object may be asked before too.
     */
    static Map<String, Long> ofAll(TrapProver prover) {
        Map<String, Long> answers = ofQuestions(prover);
        for (int p = 0; p < 16; p++) {
            int c = prover.patch(p, 0);
            answers.put("c of " + p, (long) c);
            prover.patch(p, c);
        }
        // Asked again, because the patches make the object find its answers anew.
        ofQuestions(prover).forEach((call, answer) -> answers.put("anew " + call, answer));
        answers.put("emit(14, 0)", (long) prover.emit(Ops.HALT, 0));
        answers.put("then values(0, 0)", (long) prover.values(0, 0));
        answers.put("then values(0, 1)", (long) prover.values(0, 1));
        return answers;
    }
}

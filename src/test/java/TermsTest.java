import java.util.Map;

/** The edges that the document's Terms name beside the table, a test for each sentence. */
public final class TermsTest {
    private static final int MAX = Integer.MAX_VALUE;
    private static final int MIN = Integer.MIN_VALUE;

    private static final Check CHECK = new Check();

    public static void main(String[] args) {
        CHECK.each(
            TermsTest::atMostSixteen, TermsTest::numberedFromZero,
            TermsTest::goesOnAtTheNextNumber, TermsTest::endsPastTheLast,
            TermsTest::endsAtAPlaceOutside, TermsTest::endsWhereAnInstructionWas,
            TermsTest::trapEndsTheRun, TermsTest::runsBeginInTheRanges,
            TermsTest::possibleIfSomeRunComes, TermsTest::noInstructionsNoState,
            TermsTest::questionsChangeNothing, TermsTest::badPlaces,
            TermsTest::badPlacesAreFalse);
    }

    private static void atMostSixteen() {
        CHECK.sentence("A PROGRAM is a list of at most 16 INSTRUCTIONS");
        TrapProver prover = Check.repeated(15, Ops.ADDC, 1);
        CHECK.due("the sixteenth emit", prover.emit(Ops.HALT, 0), 15);
        CHECK.due("the seventeenth emit", prover.emit(Ops.HALT, 0), TrapProver.FULL);
        CHECK.due("states(15)", prover.states(15), 256);
        CHECK.due("soonest(15)", prover.soonest(15), 15);
        CHECK.due("states(16)", prover.states(16), TrapProver.BAD_PLACE);
    }

    private static void numberedFromZero() {
        CHECK.sentence("INSTRUCTIONS, numbered from 0");
        TrapProver prover = new TrapProver();
        CHECK.due("the first emit", prover.emit(Ops.SETX, 3), 0);
        CHECK.due("states(0)", prover.states(0), 256);
        CHECK.due("states(1)", prover.states(1), TrapProver.BAD_PLACE);
        CHECK.due("states(-1)", prover.states(-1), TrapProver.BAD_PLACE);
        CHECK.due("patch(0, 4)", prover.patch(0, 4), 3);
    }

    private static void goesOnAtTheNextNumber() {
        CHECK.sentence("A run goes on at the next number, unless it goes elsewhere as said");
        for (int op = Ops.SETX; op < Ops.JUMP; op++) {
            TrapProver prover = Check.from(
                Check.program(Ops.SETX, 3, op, 9, Ops.HALT, 0, Ops.HALT, 0), 1, 1);
            CHECK.due("after op " + op + ": soonest(2)", prover.soonest(2), 2);
            CHECK.due("after op " + op + ": states(3)", prover.states(3), 0);
        }
        // 14 goes on to 15, the last place that there can be.
        TrapProver full = Check.repeated(16, Ops.SWAP, 0);
        CHECK.due("soonest(15)", full.soonest(15), 15);
    }

    private static void endsPastTheLast() {
        CHECK.sentence("If that is not the number of an instruction, the run ENDS there:"
            + " past the last");
        for (int op = Ops.SETX; op <= Ops.HALT; op++) {
            // 31 traps no INDEX, y 1 no DIV, and as a jump's place it is outside.
            for (int count : new int[] {1, 2, 15}) {
                TrapProver prover = Check.repeated(count, Ops.SETY, 1);
                prover.emit(op, 31);
                String name = "op " + op + " at " + count;
                CHECK.due(name + ": canEnd", prover.canEnd(), true);
                CHECK.due(name + ": safe", prover.safe(), true);
                CHECK.due(name + ": canRunForever", prover.canRunForever(), false);
                CHECK.due(name + ": traps", prover.traps(count), 0);
                CHECK.due(name + ": no place after", prover.states(count + 1), TrapProver.BAD_PLACE);
            }
        }
    }

    private static void endsAtAPlaceOutside() {
        CHECK.sentence("If that is not the number of an instruction, the run ENDS there:"
            + " a jump out");
        for (int length = 1; length <= 16; length++) {
            int last = length - 1;
            CHECK.due("to " + last + " of " + length, jumpOf(length, last).canEnd(), false);
            for (int c : new int[] {-1, length, MIN, MAX}) {
                TrapProver prover = jumpOf(length, c);
                CHECK.due("to " + c + " of " + length + ": canEnd", prover.canEnd(), true);
                CHECK.due("to " + c + " of " + length + ": safe", prover.safe(), true);
                CHECK.due("to " + c + " of " + length + ": endless", prover.endless(), 0);
            }
        }
    }

    /** JUMP c, and behind it instructions that all jump to themselves. */
    private static TrapProver jumpOf(int length, int c) {
        TrapProver prover = Check.program(Ops.JUMP, c);
        for (int p = 1; p < length; p++) {
            prover.emit(Ops.JUMP, p);
        }
        return prover;
    }

    private static void endsWhereAnInstructionWas() {
        CHECK.sentence("If that is not the number of an instruction, the run ENDS there:"
            + " a dropped one");
        TrapProver prover = Check.repeated(16, Ops.INDEX, 0);
        CHECK.due("safe before clear", prover.safe(), false);
        prover.clear();
        prover.emit(Ops.JUMP, 1);
        CHECK.due("JUMP 1: canEnd", prover.canEnd(), true);
        CHECK.due("JUMP 1: safe", prover.safe(), true);
        prover.patch(0, 15);
        CHECK.due("JUMP 15: canEnd", prover.canEnd(), true);
        CHECK.due("JUMP 15: safe", prover.safe(), true);
        prover.clear();
        prover.emit(Ops.ADDC, 1);
        CHECK.due("ADDC: canEnd", prover.canEnd(), true);
        CHECK.due("ADDC: safe", prover.safe(), true);
    }

    private static void trapEndsTheRun() {
        CHECK.sentence("a run that TRAPS ends too, at the instruction that trapped");
        int[][] trapping = {{Ops.DIV, 0}, {Ops.INDEX, 7}};
        for (int[] trap : trapping) {
            TrapProver prover = Check.from(
                Check.program(trap[0], trap[1], Ops.JUMP, 0, Ops.HALT, 0), 7, 0);
            String name = "op " + trap[0];
            CHECK.due(name + ": states(0)", prover.states(0), 1);
            CHECK.due(name + ": traps(0)", prover.traps(0), 1);
            CHECK.due(name + ": states(1)", prover.states(1), 0);
            CHECK.due(name + ": soonest(1)", prover.soonest(1), TrapProver.NEVER);
            CHECK.due(name + ": canEnd", prover.canEnd(), false);
            CHECK.due(name + ": canRunForever", prover.canRunForever(), false);
            CHECK.due(name + ": endless", prover.endless(), 0);
        }
    }

    private static void runsBeginInTheRanges() {
        CHECK.sentence("RUNS begin at instruction 0 with any x from the least to the greatest"
            + " allowed x and any y likewise");
        TrapProver prover = Check.program(Ops.HALT, 0, Ops.HALT, 0);
        prover.begin(0, 3, 12);
        prover.begin(1, 5, 9);
        for (int x : new int[] {3, 4, 11, 12}) {
            for (int y : new int[] {5, 6, 8, 9}) {
                CHECK.due("within: " + x + " " + y, prover.possible(0, x, y), true);
            }
        }
        for (int x : new int[] {0, 2, 13, 15}) {
            CHECK.due("x outside: " + x, prover.possible(0, x, 7), false);
        }
        for (int y : new int[] {0, 4, 10, 15}) {
            CHECK.due("y outside: " + y, prover.possible(0, 7, y), false);
        }
        CHECK.due("states(0)", prover.states(0), 10 * 5);
        CHECK.due("none begins at 1", prover.states(1), 0);
    }

    private static void possibleIfSomeRunComes() {
        CHECK.sentence("A state is POSSIBLE if some run comes to it");
        TrapProver ending = Check.from(Check.program(Ops.ADDC, 1, Ops.HALT, 0), 4, 6);
        CHECK.due("the one where it ends", ending.possible(1, 5, 6), true);
        TrapProver trapping = Check.from(Check.program(Ops.SETY, 0, Ops.DIV, 0), 4, 6);
        CHECK.due("the one where it traps", trapping.possible(1, 4, 0), true);
        // One run of 256 is enough; and none is not, though the place itself is reached.
        TrapProver rare = Check.program(Ops.JLT, 3, Ops.INDEX, 1, Ops.JZ, 4, Ops.HALT, 0, Ops.HALT, 0);
        CHECK.due("the one run with x 0 y 0", rare.possible(4, 0, 0), true);
        CHECK.due("states(4)", rare.states(4), 1);
        CHECK.due("no run with x 0 y 1", rare.possible(4, 0, 1), false);
    }

    private static void noInstructionsNoState() {
        CHECK.sentence("(If there are no instructions, no state is possible.)");
        noState("new", new TrapProver());
        TrapProver narrow = new TrapProver();
        narrow.begin(0, 0, 0);
        noState("new with a range", narrow);
        for (int op : new int[] {Ops.JUMP, Ops.INDEX, Ops.HALT}) {
            TrapProver cleared = Check.program(op, 0);
            CHECK.due("before clear", cleared.states(0), 256);
            cleared.clear();
            noState("cleared", cleared);
            cleared.emit(op, 0);
            CHECK.due("with one again", cleared.states(0), 256);
        }
    }

    private static void noState(String name, TrapProver prover) {
        for (int value = 0; value < 16; value++) {
            CHECK.due(name + ": x " + value, prover.possible(0, value, 0), false);
            CHECK.due(name + ": y " + value, prover.possible(0, 0, value), false);
        }
        CHECK.due(name + ": endless", prover.endless(), 0);
        CHECK.due(name + ": canRunForever", prover.canRunForever(), false);
        // A state would trap or end there, if there were one.
        CHECK.due(name + ": safe", prover.safe(), true);
        CHECK.due(name + ": canEnd", prover.canEnd(), false);
    }

    /** Holds each call after each question against the same call on an object never asked. */
    private static void questionsChangeNothing() {
        CHECK.sentence("The calls below change nothing that any call answers");
        for (int question = 0; question < 9; question++) {
            for (int then = 0; then < 11; then++) {
                for (int p = 0; p < 4; p++) {
                    TrapProver asked = Check.mixed();
                    for (int place : new int[] {0, 1, 2, 3, 4, -1, MIN, MAX}) {
                        call(asked, question, place, 1);
                        call(asked, question, place, place);
                    }
                    String name = "call " + then + " at " + p + " after question " + question;
                    CHECK.due(name, call(asked, then, p, 1), call(Check.mixed(), then, p, 1));
                }
            }
        }
        TrapProver twice = Check.mixed();
        Map<String, Long> first = Answers.ofQuestions(twice);
        CHECK.same("all asked again", Answers.ofQuestions(twice), first);
        TrapProver empty = new TrapProver();
        Answers.ofQuestions(empty);
        CHECK.due("none written: emit", empty.emit(Ops.HALT, 0), 0);
        CHECK.due("none written: states", empty.states(0), 256);
    }

    /** Kinds 0 to 8 are the questions. */
    private static long call(TrapProver prover, int kind, int p, int other) {
        return switch (kind) {
            case 0 -> prover.states(p);
            case 1 -> prover.possible(p, other, other) ? 1 : 0;
            case 2 -> prover.values(p, other);
            case 3 -> prover.traps(p);
            case 4 -> prover.safe() ? 1 : 0;
            case 5 -> prover.soonest(p);
            case 6 -> prover.canEnd() ? 1 : 0;
            case 7 -> prover.canRunForever() ? 1 : 0;
            case 8 -> prover.endless();
            case 9 -> prover.patch(p, other);
            default -> prover.emit(p, other);
        };
    }

    private static void badPlaces() {
        CHECK.sentence("p is not the number of an instruction: BAD_PLACE");
        for (int length = 0; length <= 16; length++) {
            TrapProver prover = Check.repeated(length, Ops.JUMP, 0);
            for (int p : new int[] {-1, length, 16, 17, MIN, MAX}) {
                badPlace(prover, length, p);
            }
            if (length > 0) {
                goodPlace(prover, length, 0);
                goodPlace(prover, length, length - 1);
            }
        }
        TrapProver cleared = Check.repeated(16, Ops.HALT, 0);
        cleared.states(15);
        cleared.clear();
        badPlace(cleared, 0, 0);
        badPlace(cleared, 0, 15);
    }

    private static void badPlace(TrapProver prover, int length, int p) {
        String of = "(" + p + ") of " + length;
        CHECK.due("states" + of, prover.states(p), TrapProver.BAD_PLACE);
        CHECK.due("values x" + of, prover.values(p, 0), TrapProver.BAD_PLACE);
        CHECK.due("values y" + of, prover.values(p, 1), TrapProver.BAD_PLACE);
        CHECK.due("traps" + of, prover.traps(p), TrapProver.BAD_PLACE);
        CHECK.due("soonest" + of, prover.soonest(p), TrapProver.BAD_PLACE);
    }

    private static void goodPlace(TrapProver prover, int length, int p) {
        String of = "(" + p + ") of " + length;
        CHECK.due("states" + of, prover.states(p), p == 0 ? 256 : 0);
        CHECK.due("values x" + of, prover.values(p, 0), p == 0 ? 0xFFFF : 0);
        CHECK.due("values y" + of, prover.values(p, 1), p == 0 ? 0xFFFF : 0);
        CHECK.due("traps" + of, prover.traps(p), 0);
        CHECK.due("soonest" + of, prover.soonest(p), p == 0 ? 0 : TrapProver.NEVER);
    }

    private static void badPlacesAreFalse() {
        CHECK.sentence("p is not the number of an instruction: false for booleans");
        for (int length = 0; length <= 16; length++) {
            TrapProver prover = Check.repeated(length, Ops.READ, 0);
            for (int p : new int[] {-1, length, 16, 17, MIN, MAX}) {
                for (int v : new int[] {0, 15}) {
                    String call = "possible(" + p + ", " + v + ", " + v + ") of " + length;
                    CHECK.due(call, prover.possible(p, v, v), false);
                }
            }
            for (int p = 0; p < length; p++) {
                String call = "possible(" + p + ", 15, 15) of " + length;
                CHECK.due(call, prover.possible(p, 15, 15), true);
            }
        }
    }
}

import java.util.Map;

/** Counts the answers of one test that are not the ones due, and tells each of them. */
final class Check {
    private static final int LONGEST_MILLISECONDS = 300_000;

    private String sentence = "";
    private int lookedInSentence = 0;
    private int looked = 0;
    private int wrong = 0;

    Check() {
        Thread watch = new Thread(this::failIfItGoesOn);
        watch.setDaemon(true);
        watch.start();
    }

    // A call that never answers must fail its test, not keep it waiting.
    private void failIfItGoesOn() {
        try {
            Thread.sleep(LONGEST_MILLISECONDS);
        } catch (InterruptedException stopped) {
            return;
        }
        tell("goes on for too long");
        Runtime.getRuntime().halt(1);
    }

    /** The checks that follow are about this sentence of the document. */
    void sentence(String text) {
        endSentence();
        sentence = text;
        lookedInSentence = 0;
    }

    /** Runs each test, also if one before it threw, and ends. */
    void each(Runnable... tests) {
        for (Runnable test : tests) {
            try {
                test.run();
            } catch (RuntimeException thrown) {
                tell("threw " + thrown + " at " + thrown.getStackTrace()[0]);
            }
        }
        end();
    }

    void due(String call, long got, long want) {
        looked++;
        lookedInSentence++;
        if (got != want) {
            tell(call + " answered " + got + ", due is " + want);
        }
    }

    void due(String call, boolean got, boolean want) {
        due(call, got ? 1 : 0, want ? 1 : 0);
    }

    /** Each call of want must have the same answer in got. */
    void same(String when, Map<String, Long> got, Map<String, Long> want) {
        due(when + ": calls", got.size(), want.size());
        want.forEach((call, answer) -> due(when + ": " + call, got.get(call), answer));
    }

    void end() {
        endSentence();
        System.out.println(looked + " answers looked at, " + wrong + " not as due");
        if (wrong != 0 || looked == 0) {
            System.exit(1);
        }
    }

    // A test that looks at nothing would pass whatever the program does.
    private void endSentence() {
        if (!sentence.isEmpty() && lookedInSentence == 0) {
            tell("no answer was looked at");
        }
    }

    private void tell(String what) {
        wrong++;
        System.out.println((sentence.isEmpty() ? "" : "[" + sentence + "] ") + what);
    }

    /** A new prover whose program is the given pairs of op and c. */
    static TrapProver program(int... opsAndNumbers) {
        TrapProver prover = new TrapProver();
        for (int i = 0; i < opsAndNumbers.length; i += 2) {
            prover.emit(opsAndNumbers[i], opsAndNumbers[i + 1]);
        }
        return prover;
    }

    /** A new prover whose program is the same instruction, so many times. */
    static TrapProver repeated(int count, int op, int c) {
        TrapProver prover = new TrapProver();
        for (int p = 0; p < count; p++) {
            prover.emit(op, c);
        }
        return prover;
    }

    /** Lets runs begin with this one x and this one y alone. */
    static TrapProver from(TrapProver prover, int x, int y) {
        prover.begin(0, x, x);
        prover.begin(1, y, y);
        return prover;
    }

    /** Runs of it trap, end and never end, so that most changes to it would show. */
    static TrapProver mixed() {
        TrapProver prover = program(Ops.READ, 5, Ops.DIV, -6, Ops.JZ, 0, Ops.INDEX, 3);
        prover.begin(0, 2, 14);
        prover.begin(1, 1, 13);
        return prover;
    }
}

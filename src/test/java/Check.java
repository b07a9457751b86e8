/** Counts the answers of one test that are not the ones due, and tells each of them. */
final class Check {
    private int looked = 0;
    private int wrong = 0;

    void due(String call, long got, long want) {
        looked++;
        if (got != want) {
            wrong++;
            System.out.println(call + " answered " + got + ", due is " + want);
        }
    }

    void due(String call, boolean got, boolean want) {
        due(call, got ? 1 : 0, want ? 1 : 0);
    }

    void end() {
        System.out.println(looked + " answers looked at, " + wrong + " not as due");
        if (wrong != 0 || looked == 0) {
            System.exit(1);
        }
    }

    /** A new prover whose program is the given pairs of op and c. */
    static TrapProver program(int... opsAndNumbers) {
        TrapProver prover = new TrapProver();
        for (int i = 0; i < opsAndNumbers.length; i += 2) {
            prover.emit(opsAndNumbers[i], opsAndNumbers[i + 1]);
        }
        return prover;
    }

    /** Lets runs begin with this one x and this one y alone. */
    static TrapProver from(TrapProver prover, int x, int y) {
        prover.begin(0, x, x);
        prover.begin(1, y, y);
        return prover;
    }
}

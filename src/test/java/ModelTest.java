/** All promises: many runs of mixed calls, each answer held against the one of the model. */
public final class ModelTest {
    private static final int RUNS = 400;
    private static final int CALLS = 80;
    // Some runs go as far as an object is used.
    private static final int LONG_RUN_EVERY = 25;
    private static final int MOST_CALLS = 512;
    private static final int[] ODD_NUMBERS = {
        -1, -3, 16, 17, 31, 32, 100, Integer.MAX_VALUE, Integer.MIN_VALUE,
    };

    private static final Check CHECK = new Check();

    // Each run starts from its own number, so a wrong answer comes again at every try.
    private static long seed;

    public static void main(String[] args) {
        for (int run = 0; run < RUNS; run++) {
            seed = run * 7919L + 1;
            play(run);
        }
        CHECK.end();
    }

    private static int below(int bound) {
        seed = seed * 6364136223846793005L + 1442695040888963407L;
        return (int) ((seed >>> 33) % bound);
    }

    private static void play(int run) {
        TrapProver prover = new TrapProver();
        Model model = new Model();
        int length = below(17);
        for (int p = 0; p < length; p++) {
            emit(run, prover, model, below(15));
        }
        int calls = run % LONG_RUN_EVERY == 0 ? MOST_CALLS : CALLS;
        for (int call = length; call < calls; call++) {
            if (below(4) == 0) {
                change(run, prover, model);
            } else {
                ask(run, prover, model);
            }
        }
    }

    private static int number() {
        return below(6) == 0 ? ODD_NUMBERS[below(ODD_NUMBERS.length)] : below(17);
    }

    private static int place() {
        return below(12) == 0 ? ODD_NUMBERS[below(ODD_NUMBERS.length)] : below(16);
    }

    private static void emit(int run, TrapProver prover, Model model, int op) {
        int c = number();
        CHECK.due(run + ": emit(" + op + ", " + c + ")", prover.emit(op, c), model.emit(op, c));
    }

    private static void begin(int run, TrapProver prover, Model model) {
        int register = below(8) == 0 ? below(5) - 2 : below(2);
        int low = below(10) == 0 ? -1 : below(16);
        int high = below(10) == 0 ? 16 : low + below(17 - Math.max(low, 0)) - below(20) / 19;
        String call = run + ": begin(" + register + ", " + low + ", " + high + ")";
        CHECK.due(call, prover.begin(register, low, high), model.begin(register, low, high));
    }

    private static void patch(int run, TrapProver prover, Model model) {
        int p = place();
        int c = number();
        CHECK.due(run + ": patch(" + p + ", " + c + ")", prover.patch(p, c), model.patch(p, c));
    }

    private static void change(int run, TrapProver prover, Model model) {
        int kind = below(48);
        if (kind < 14) {
            emit(run, prover, model, below(19) - 2);
        } else if (kind < 32) {
            patch(run, prover, model);
        } else if (kind < 47) {
            begin(run, prover, model);
        } else {
            prover.clear();
            model.clear();
        }
    }

    private static void ask(int run, TrapProver prover, Model model) {
        int p = place();
        String of = run + ": ";
        switch (below(9)) {
            case 0 -> CHECK.due(of + "states(" + p + ")", prover.states(p), model.states(p));
            case 1 -> {
                int x = below(18) - 1;
                int y = below(18) - 1;
                String call = of + "possible(" + p + ", " + x + ", " + y + ")";
                CHECK.due(call, prover.possible(p, x, y), model.possible(p, x, y));
            }
            case 2 -> {
                int register = below(10) == 0 ? below(5) - 2 : below(2);
                String call = of + "values(" + p + ", " + register + ")";
                CHECK.due(call, prover.values(p, register), model.values(p, register));
            }
            case 3 -> CHECK.due(of + "traps(" + p + ")", prover.traps(p), model.traps(p));
            case 4 -> CHECK.due(of + "safe()", prover.safe(), model.safe());
            case 5 -> CHECK.due(of + "soonest(" + p + ")", prover.soonest(p), model.soonest(p));
            case 6 -> CHECK.due(of + "canEnd()", prover.canEnd(), model.canEnd());
            case 7 -> CHECK.due(of + "canRunForever()", prover.canRunForever(), model.endless() > 0);
            default -> CHECK.due(of + "endless()", prover.endless(), model.endless());
        }
    }
}

import java.util.ArrayDeque;
import java.util.ArrayList;
import java.util.HashMap;
import java.util.HashSet;
import java.util.List;
import java.util.Map;
import java.util.Set;

/** The document said over in library Java, in another way than the program's. */
final class Model {
    record State(int p, int x, int y) {
    }

    record Instruction(int op, int c) {
    }

    private final List<Instruction> program = new ArrayList<>();
    private final int[] low = {0, 0};
    private final int[] high = {15, 15};

    int emit(int op, int c) {
        if (op < 0 || op > 14) {
            return -1;
        }
        if (program.size() == 16) {
            return -2;
        }
        program.add(new Instruction(op, c));
        return program.size() - 1;
    }

    int patch(int p, int c) {
        if (!has(p)) {
            return -3;
        }
        Instruction old = program.get(p);
        program.set(p, new Instruction(old.op(), c));
        return old.c();
    }

    int begin(int register, int least, int greatest) {
        boolean inOrder = 0 <= least && least <= greatest && greatest <= 15;
        if (register < 0 || register > 1 || !inOrder) {
            return -4;
        }
        low[register] = least;
        high[register] = greatest;
        return 0;
    }

    void clear() {
        program.clear();
    }

    int states(int p) {
        return has(p) ? (int) reached().keySet().stream().filter(s -> s.p() == p).count() : -3;
    }

    boolean possible(int p, int x, int y) {
        return reached().containsKey(new State(p, x, y));
    }

    int values(int p, int register) {
        if (!has(p)) {
            return -3;
        }
        if (register != 0 && register != 1) {
            return -4;
        }
        return reached().keySet().stream().filter(s -> s.p() == p)
            .mapToInt(s -> 1 << (register == 0 ? s.x() : s.y())).reduce(0, (a, b) -> a | b);
    }

    int traps(int p) {
        if (!has(p)) {
            return -3;
        }
        return (int) reached().keySet().stream().filter(s -> s.p() == p && trapping(s)).count();
    }

    boolean safe() {
        return reached().keySet().stream().noneMatch(this::trapping);
    }

    int soonest(int p) {
        if (!has(p)) {
            return -3;
        }
        return reached().entrySet().stream().filter(e -> e.getKey().p() == p)
            .mapToInt(Map.Entry::getValue).min().orElse(-5);
    }

    boolean canEnd() {
        return reached().keySet().stream().anyMatch(s -> !trapping(s) && after(s).isEmpty());
    }

    /** Takes away what only leads to ends, from the ends backwards; the rest is endless. */
    int endless() {
        Map<State, Integer> open = new HashMap<>();
        Map<State, List<State>> before = new HashMap<>();
        ArrayDeque<State> ending = new ArrayDeque<>();
        Set<State> all = reached().keySet();
        for (State state : all) {
            List<State> after = after(state);
            open.put(state, after.size());
            after.forEach(next -> before.computeIfAbsent(next, n -> new ArrayList<>()).add(state));
            if (after.isEmpty()) {
                ending.add(state);
            }
        }
        int left = all.size();
        while (!ending.isEmpty()) {
            left--;
            for (State state : before.getOrDefault(ending.remove(), List.of())) {
                if (open.merge(state, -1, Integer::sum) == 0) {
                    ending.add(state);
                }
            }
        }
        return left;
    }

    private boolean has(int p) {
        return p >= 0 && p < program.size();
    }

    private Map<State, Integer> reached() {
        Map<State, Integer> steps = new HashMap<>();
        Set<State> layer = new HashSet<>();
        if (has(0)) {
            for (int x = low[0]; x <= high[0]; x++) {
                for (int y = low[1]; y <= high[1]; y++) {
                    layer.add(new State(0, x, y));
                }
            }
        }
        for (int depth = 0; !layer.isEmpty(); depth++) {
            for (State state : layer) {
                steps.put(state, depth);
            }
            Set<State> nextLayer = new HashSet<>();
            layer.forEach(state -> nextLayer.addAll(after(state)));
            nextLayer.removeAll(steps.keySet());
            layer = nextLayer;
        }
        return steps;
    }

    private boolean trapping(State s) {
        Instruction i = program.get(s.p());
        return i.op() == Ops.DIV && s.y() == 0
            || i.op() == Ops.INDEX && s.x() >= Math.floorMod(i.c(), 32);
    }

    /** The next states; none where the run ends or traps. */
    private List<State> after(State s) {
        Instruction i = program.get(s.p());
        if (trapping(s)) {
            return List.of();
        }
        int x = s.x();
        int y = s.y();
        int low4 = Math.floorMod(i.c(), 16);
        int next = s.p() + 1;
        return switch (i.op()) {
            case Ops.SETX -> at(next, low4, y);
            case Ops.SETY -> at(next, x, low4);
            case Ops.ADDC -> at(next, (x + low4) % 16, y);
            case Ops.ADD -> at(next, (x + y) % 16, y);
            case Ops.SUB -> at(next, (x + 16 - y) % 16, y);
            case Ops.MUL -> at(next, x * y % 16, y);
            case Ops.DIV -> at(next, x / y, y);
            case Ops.SWAP -> at(next, y, x);
            case Ops.INDEX -> at(next, x, y);
            case Ops.READ -> {
                List<State> all = new ArrayList<>();
                for (int v = 0; v < 16; v++) {
                    all.addAll(at(next, x, v));
                }
                yield all;
            }
            case Ops.JUMP -> at(i.c(), x, y);
            case Ops.JEQ -> at(x == y ? i.c() : next, x, y);
            case Ops.JLT -> at(x < y ? i.c() : next, x, y);
            case Ops.JZ -> at(x == 0 ? i.c() : next, x, y);
            default -> List.of();
        };
    }

    private List<State> at(int p, int x, int y) {
        return has(p) ? List.of(new State(p, x, y)) : List.of();
    }
}

import java.lang.reflect.Field;
import java.lang.reflect.InvocationTargetException;
import java.lang.reflect.Method;
import java.lang.reflect.Modifier;
import java.util.Arrays;
import java.util.Comparator;
import java.util.Random;

/** Rule 7 of LANGUAGE.md: no call throws or fails to end, for any arguments in any state. */
public final class AnyStateTest {
    private static final int MAX = Integer.MAX_VALUE;
    private static final int MIN = Integer.MIN_VALUE;

    private static final int[] WILD = {
        MIN, MIN + 1, -257, -256, -17, -16, -6, -5, -4, -3, -2, -1, 0, 1, 2, 3, 4, 5, 6, 7, 8, 9, 10,
        11, 12, 13, 14, 15, 16, 17, 31, 32, 255, 256, 4095, 4096, MAX - 1, MAX,
    };

    private static final Check CHECK = new Check();

    public static void main(String[] args) {
        CHECK.each(AnyStateTest::noCallThrows, AnyStateTest::noMethodThrowsWhateverItFinds);
    }

    /** Goes on far past the 512th call: what it answers there is free, but it must answer. */
    private static void noCallThrows() {
        CHECK.sentence("LANGUAGE.md, rule 7: No call may ever throw or fail to end");
        TrapProver prover = new TrapProver();
        int ended = 0;
        for (int round = 0; round < 40; round++) {
            for (int a : WILD) {
                for (int b : WILD) {
                    prover.emit(round % 15, a);
                    prover.patch(a, b);
                    prover.begin(a, b, a);
                    prover.begin(round % 2, a, b);
                    prover.values(a, b);
                    prover.possible(a, b, a);
                    prover.states(a);
                    prover.traps(b);
                    prover.soonest(a);
                    prover.safe();
                    prover.canEnd();
                    prover.canRunForever();
                    prover.endless();
                    ended++;
                }
                prover.clear();
            }
        }
        CHECK.due("rounds of calls that ended", ended, 40 * WILD.length * WILD.length);
    }

    /**
     * Each method alone, the private ones as well, with fields that no calls lead to: if none of
     * them hangs on what the others leave or hand over, no run of calls can throw or go on forever.
     */
    private static void noMethodThrowsWhateverItFinds() {
        CHECK.sentence("LANGUAGE.md, rule 7: for any arguments in any state");
        Random random = new Random(7);
        Method[] methods = TrapProver.class.getDeclaredMethods();
        Arrays.sort(methods, Comparator.comparing(Method::toString));
        for (Method method : methods) {
            // A static method sees its arguments alone, so it is soon tried, and tried oftener.
            boolean isStatic = Modifier.isStatic(method.getModifiers());
            int rounds = isStatic ? 20_000 : 200;
            for (int round = 0; round < rounds; round++) {
                TrapProver prover = isStatic ? null : withWildFields(random);
                tryWildly(method, prover, random);
            }
        }
    }

    private static void tryWildly(Method method, TrapProver prover, Random random) {
        Object[] arguments = new Object[method.getParameterCount()];
        Arrays.setAll(arguments, i -> wild(random));
        String thrown = "nothing";
        try {
            method.setAccessible(true);
            method.invoke(prover, arguments);
        } catch (InvocationTargetException failed) {
            thrown = failed.getCause().toString();
        } catch (IllegalAccessException refused) {
            thrown = refused.toString();
        }
        String call = method.getName() + Arrays.toString(arguments) + " threw " + thrown;
        CHECK.due(call, thrown.equals("nothing"), true);
    }

    private static int wild(Random random) {
        return WILD[random.nextInt(WILD.length)];
    }

    private static TrapProver withWildFields(Random random) {
        TrapProver prover = new TrapProver();
        for (Field field : TrapProver.class.getDeclaredFields()) {
            if (!Modifier.isStatic(field.getModifiers())) {
                fillWildly(field, prover, random);
            }
        }
        return prover;
    }

    private static void fillWildly(Field field, TrapProver prover, Random random) {
        try {
            field.setAccessible(true);
            if (field.get(prover) instanceof int[] numbers) {
                Arrays.setAll(numbers, i -> wild(random));
            } else if (field.get(prover) instanceof boolean[] flags) {
                for (int i = 0; i < flags.length; i++) {
                    flags[i] = random.nextBoolean();
                }
            } else if (field.getType() == boolean.class) {
                field.setBoolean(prover, random.nextBoolean());
            } else {
                field.setInt(prover, wild(random));
            }
        } catch (IllegalAccessException refused) {
            throw new IllegalStateException(refused);
        }
    }
}

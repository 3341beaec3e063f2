import java.lang.reflect.Array;
import java.lang.reflect.Field;
import java.lang.reflect.Modifier;
import java.util.ArrayList;
import java.util.Arrays;
import java.util.List;

/**
 * "A call that answers BAD, NO_PAGE or READ_ONLY changes nothing", in its strictest reading: after such a call every
 * field of the object, whatever it is for, is as it was. The other tests see only what shows in later answers.
 * The calls come from a fixed row of numbers, so that every run of the test is the same.
 */
public final class RefusedCalls {
    private static final int RUNS_PER_SIZE = 40;
    private static final int CALLS = 512;
    private static final int MOST_TOLD = 20;

    private static int wrong = 0;
    private static long seed = 8L;
    private static final int[] refusedWith = new int[4];
    private static final List<Field> fields = new ArrayList<>();

    public static void main(String[] args) throws Exception {
        for (Field field : CachedMemory.class.getDeclaredFields()) {
            if (!Modifier.isStatic(field.getModifiers())) {
                field.setAccessible(true);
                fields.add(field);
            }
        }
        for (int lines = 0; lines <= 5; lines++) {
            for (int buffer = 0; buffer <= 5; buffer++) {
                for (int run = 0; run < RUNS_PER_SIZE; run++) {
                    oneRun(lines, buffer);
                }
            }
        }
        for (int kind = 1; kind <= 3; kind++) {
            if (refusedWith[kind] < 1000) {
                tell("only " + refusedWith[kind] + " calls answered -" + kind);
            }
        }
        System.out.println(wrong == 0 ? "refused calls change nothing" : wrong + " things are not as due");
        if (wrong != 0) {
            System.exit(1);
        }
    }

    private static void tell(String what) {
        wrong++;
        if (wrong <= MOST_TOLD) {
            System.out.println(what);
        }
    }

    private static int next(int bound) {
        seed = seed * 6364136223846793005L + 1442695040888963407L;
        return (int) ((seed >>> 33) % bound);
    }

    private static void oneRun(int lines, int buffer) throws Exception {
        CachedMemory x = new CachedMemory(lines, buffer);
        for (int i = 0; i < CALLS; i++) {
            int method = next(10);
            int[] n = {next(66) - 1, next(10) - 1, next(10) - 1, next(6) - 1};
            Object[] before = allFields(x);
            int answer = call(x, method, n, next(3) == 0);
            if (answer >= 0) {
                continue;
            }
            refusedWith[-answer]++;
            if (!Arrays.deepEquals(allFields(x), before)) {
                tell("CachedMemory(" + lines + ", " + buffer + "): method " + method + " answered " + answer + " and changed a field");
            }
        }
    }

    /** The methods whose negative answers are refusals: for deviceRead and last they are values. */
    private static int call(CachedMemory x, int method, int[] n, boolean writable) {
        switch (method) {
            case 0: return x.enter(n[3]);
            case 1: return x.map(n[3], n[1], n[2], writable);
            case 2: return n[0] % 4 == 0 ? x.unmap(n[3], n[1]) : x.map(n[3], n[1], n[2], writable);
            case 3: return n[0] % 4 == 0 ? x.protect(n[2]) : x.translate(n[0]);
            case 4:
            case 5: return x.load(n[0]);
            case 6: return x.store(n[0], 100 * n[1] + n[2]);
            case 7: return x.add(n[0], 100 * n[1] + n[2]);
            case 8: return x.deviceWrite(n[0], 100 * n[1] + n[2]);
            default: return x.deviceCopy(n[0], 8 * n[1], n[2]);
        }
    }

    private static Object[] allFields(CachedMemory x) throws Exception {
        Object[] copies = new Object[fields.size()];
        for (int i = 0; i < copies.length; i++) {
            copies[i] = copyOf(fields.get(i).get(x));
        }
        return copies;
    }

    private static Object copyOf(Object value) {
        if (!value.getClass().isArray()) {
            return value;
        }
        Object copy = Array.newInstance(value.getClass().getComponentType(), Array.getLength(value));
        System.arraycopy(value, 0, copy, 0, Array.getLength(value));
        return copy;
    }
}

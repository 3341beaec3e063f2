/**
 * Long runs of mixed calls, every answer compared with a model that has neither cache nor buffer.
 * The calls come from a fixed row of numbers, so that every run of the test is the same.
 */
public final class ModelRuns {
    private static final int RUNS_PER_SIZE = 500;
    // Nothing is promised after that call.
    private static final int LAST_CALL = 512;
    private static final int MOST_TOLD = 20;

    private static int wrong = 0;
    private static long seed = 20261115L;

    private final int[] words = new int[64];
    private final int[][] frames = new int[4][8];
    private final boolean[][] writable = new boolean[4][8];
    private int current = 0;
    private int last = 0;
    private int calls = 0;

    private ModelRuns() {
        for (int[] row : frames) {
            java.util.Arrays.fill(row, -1);
        }
    }

    public static void main(String[] args) {
        for (int lines = 0; lines <= 5; lines++) {
            for (int buffer = 0; buffer <= 5; buffer++) {
                for (int run = 0; run < RUNS_PER_SIZE && wrong < MOST_TOLD; run++) {
                    oneRun(lines, buffer, run);
                }
            }
        }
        System.out.println(wrong == 0 ? "all answers are as due" : wrong + " answers are not as due");
        if (wrong != 0) {
            System.exit(1);
        }
    }

    private static void oneRun(int lines, int buffer, int run) {
        CachedMemory x = new CachedMemory(lines, buffer);
        ModelRuns model = new ModelRuns();
        while (model.calls < LAST_CALL) {
            String told = model.oneStep(x, run);
            if (told != null) {
                wrong++;
                System.out.println("CachedMemory(" + lines + ", " + buffer + ") run " + run + " call " + model.calls + ": " + told);
                return;
            }
        }
    }

    private static int next(int bound) {
        seed = seed * 6364136223846793005L + 1442695040888963407L;
        return (int) ((seed >>> 33) % bound);
    }

    /** Mostly a number from 0 to bound - 1, at times one just outside or far outside. */
    private static int pick(int bound) {
        switch (next(60)) {
            case 0: return -1;
            case 1: return bound;
            case 2: return next(2) == 0 ? Integer.MIN_VALUE : Integer.MAX_VALUE;
            default: return next(bound);
        }
    }

    private static int value() {
        return next(8) == 0 ? Integer.MAX_VALUE - next(3) : next(2000) - 1000;
    }

    /** Makes a call on both, or a load and a last; answers null if they agree. Some kinds of run change entries often, some seldom. */
    private String oneStep(CachedMemory x, int run) {
        int kind = next(100);
        int tableCalls = run % 3 == 0 ? 45 : run % 3 == 1 ? 20 : 8;
        if (kind < tableCalls) {
            return tableCall(x);
        }
        return kind % 4 == 0 ? deviceCall(x) : programCall(x);
    }

    private String tableCall(CachedMemory x) {
        int s = pick(4);
        int page = pick(8);
        int frame = pick(8);
        boolean w = next(3) != 0;
        switch (next(8)) {
            case 0: return told("unmap(" + s + ", " + page + ")", x.unmap(s, page), unmap(s, page));
            case 1: return told("protect(" + frame + ")", x.protect(frame), protect(frame));
            case 2:
            case 3: return told("enter(" + s + ")", x.enter(s), enter(s));
            default: return told("map(" + s + ", " + page + ", " + frame + ", " + w + ")", x.map(s, page, frame, w), map(s, page, frame, w));
        }
    }

    private String programCall(CachedMemory x) {
        int a = pick(64);
        int v = value();
        switch (next(7)) {
            case 0:
            case 1: return told("store(" + a + ", " + v + ")", x.store(a, v), write(a, v, false));
            case 2: return told("add(" + a + ", " + v + ")", x.add(a, v), write(a, v, true));
            case 3: return told("translate(" + a + ")", x.translate(a), translate(a));
            case 4: return told("last()", x.last(), last);
            default:
                String wrongStatus = told("load(" + a + ")", x.load(a), load(a));
                if (wrongStatus != null || calls == LAST_CALL) {
                    return wrongStatus;
                }
                return told("last() after load(" + a + ")", x.last(), last);
        }
    }

    private String deviceCall(CachedMemory x) {
        int w = pick(64);
        int to = pick(65);
        int count = next(4) == 0 ? pick(65) : pick(9);
        int v = value();
        switch (next(5)) {
            case 0:
            case 1: return told("deviceRead(" + w + ")", x.deviceRead(w), outside(w, 64) ? 0 : words[w]);
            case 2:
            case 3: return told("deviceWrite(" + w + ", " + v + ")", x.deviceWrite(w, v), deviceWrite(w, v));
            default: return told("deviceCopy(" + w + ", " + to + ", " + count + ")", x.deviceCopy(w, to, count), deviceCopy(w, to, count));
        }
    }

    private String told(String call, int got, int want) {
        calls++;
        return got == want ? null : call + " answered " + got + ", due is " + want;
    }

    private static boolean outside(int n, int bound) {
        return n < 0 || n >= bound;
    }

    private int enter(int s) {
        if (outside(s, 4)) return -1;
        current = s;
        return 0;
    }

    private int map(int s, int page, int frame, boolean w) {
        if (outside(s, 4) || outside(page, 8) || outside(frame, 8)) return -1;
        int answer = frames[s][page] < 0 ? 0 : 1;
        frames[s][page] = frame;
        writable[s][page] = w;
        return answer;
    }

    private int unmap(int s, int page) {
        if (outside(s, 4) || outside(page, 8)) return -1;
        if (frames[s][page] < 0) return -2;
        frames[s][page] = -1;
        return 0;
    }

    private int protect(int frame) {
        if (outside(frame, 8)) return -1;
        int count = 0;
        for (int s = 0; s < 4; s++) {
            for (int page = 0; page < 8; page++) {
                if (frames[s][page] == frame && writable[s][page]) {
                    writable[s][page] = false;
                    count++;
                }
            }
        }
        return count;
    }

    private int translate(int a) {
        if (outside(a, 64)) return -1;
        int frame = frames[current][a >> 3];
        return frame < 0 ? -2 : frame * 8 + (a & 7);
    }

    private int load(int a) {
        int w = translate(a);
        if (w < 0) return w;
        last = words[w];
        return 0;
    }

    private int write(int a, int v, boolean onTop) {
        int w = translate(a);
        if (w < 0) return w;
        if (!writable[current][a >> 3]) return -3;
        words[w] = onTop ? words[w] + v : v;
        return 0;
    }

    private int deviceWrite(int w, int v) {
        if (outside(w, 64)) return -1;
        words[w] = v;
        return 0;
    }

    private int deviceCopy(int from, int to, int count) {
        if (from < 0 || to < 0 || count < 0) return -1;
        if ((long) from + count > 64 || (long) to + count > 64) return -1;
        for (int i = 0; i < count; i++) {
            words[to + i] = words[from + i];
        }
        return count;
    }
}

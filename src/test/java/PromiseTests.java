/** Each promise of the document by itself: ordinary inputs, edges and wrong inputs, for all sizes of cache and buffer. */
public final class PromiseTests {
    private static final int MIN = Integer.MIN_VALUE;
    private static final int MAX = Integer.MAX_VALUE;
    private static final int BAD = -1;
    private static final int NO_PAGE = -2;
    private static final int READ_ONLY = -3;

    private static int wrong = 0;
    private static int lines;
    private static int buffer;

    public static void main(String[] args) {
        constants();
        int[] sizes = {MIN, -1, 0, 1, 2, 3, 4, 5, MAX};
        for (int l : sizes) {
            for (int b : sizes) {
                lines = l;
                buffer = b;
                allPromises();
            }
        }
        System.out.println(wrong == 0 ? "all answers are as due" : wrong + " answers are not as due");
        if (wrong != 0) {
            System.exit(1);
        }
    }

    private static void allPromises() {
        promise1NewObject();
        promise2Enter();
        promise3Map();
        promise3MapTakesEffect();
        promise4Unmap();
        promise5Protect();
        promise5ProtectCounts();
        promise6Load();
        promise7Last();
        promise8Store();
        promise9Add();
        promise10DeviceRead();
        promise11DeviceWrite();
        promise12DeviceCopy();
        promise12DeviceCopyOverlaps();
        promise12DeviceCopyLimits();
        promise13Translate();
        promise14SumWraps();
        promise14ExactSums();
        promise14RefusedCallsChangeNothing();
        readsShowTheLatestValue();
        objectsAreSeparate();
    }

    private static CachedMemory fresh() {
        return new CachedMemory(lines, buffer);
    }

    /** A new object whose space 0 has page p on frame p, writable. */
    private static CachedMemory straight() {
        CachedMemory x = fresh();
        for (int p = 0; p < 8; p++) {
            x.map(0, p, p, true);
        }
        return x;
    }

    private static void due(String call, int got, int want) {
        if (got != want) {
            wrong++;
            System.out.println("CachedMemory(" + lines + ", " + buffer + "): " + call + " answered " + got + ", due is " + want);
        }
    }

    private static void dueLoad(String what, CachedMemory x, int a, int want) {
        due(what + ": load(" + a + ")", x.load(a), 0);
        due(what + ": last() after load(" + a + ")", x.last(), want);
    }

    private static void constants() {
        due("BAD", CachedMemory.BAD, BAD);
        due("NO_PAGE", CachedMemory.NO_PAGE, NO_PAGE);
        due("READ_ONLY", CachedMemory.READ_ONLY, READ_ONLY);
        due("OK", CachedMemory.OK, 0);
    }

    private static void promise1NewObject() {
        CachedMemory x = fresh();
        due("new: last()", x.last(), 0);
        for (int w = 0; w < 64; w++) {
            due("new: deviceRead(" + w + ")", x.deviceRead(w), 0);
        }
        for (int s = 0; s < 4; s++) {
            for (int p = 0; p < 8; p++) {
                due("new: unmap(" + s + ", " + p + ")", x.unmap(s, p), NO_PAGE);
            }
        }
        x.map(0, 2, 5, true);
        due("new: space 0 is current: translate(16)", x.translate(16), 40);
        dueLoad("new", x, 16, 0);
    }

    private static void promise2Enter() {
        CachedMemory x = fresh();
        for (int s = 0; s < 4; s++) {
            x.map(s, 1, s + 2, true);
        }
        int[] order = {0, 3, 1, 2, 0, 2, 3, 3, 1, 0};
        for (int s : order) {
            due("enter(" + s + ")", x.enter(s), 0);
            due("entered " + s + ": translate(9)", x.translate(9), 8 * (s + 2) + 1);
            due("entered " + s + ": store(9)", x.store(9, 100 + s), 0);
        }
        for (int s = 0; s < 4; s++) {
            due("entered: deviceRead", x.deviceRead(8 * (s + 2) + 1), 100 + s);
        }
        x.enter(3);
        int[] bad = {-1, 4, MIN, MAX};
        for (int s : bad) {
            due("enter(" + s + ")", x.enter(s), BAD);
            due("still in 3: translate(9)", x.translate(9), 41);
        }
    }

    private static void promise3Map() {
        CachedMemory x = fresh();
        int[] bad = {-1, 8, MIN, MAX};
        for (int b : bad) {
            due("map(0, " + b + ", 0)", x.map(0, b, 0, true), BAD);
            due("map(0, 0, " + b + ")", x.map(0, 0, b, true), BAD);
            due("map(" + b + ", 0, 0)", x.map(b, 0, 0, true), BAD);
        }
        due("map(4, 0, 0)", x.map(4, 0, 0, true), BAD);
        due("map(3, 8, 7)", x.map(3, 8, 7, true), BAD);
        for (int s = 0; s < 4; s++) {
            for (int p = 0; p < 8; p++) {
                due("map of an empty entry", x.map(s, p, (s + p) % 8, true), 0);
            }
        }
        for (int s = 0; s < 4; s++) {
            x.enter(s);
            for (int p = 0; p < 8; p++) {
                due("mapped: translate", x.translate(8 * p + 7), 8 * ((s + p) % 8) + 7);
                due("map of a used entry", x.map(s, p, (s + p) % 8, true), 1);
                due("map of a used entry", x.map(s, p, 7 - p, false), 1);
                due("mapped again: translate", x.translate(8 * p), 8 * (7 - p));
            }
        }
        due("unmap", x.unmap(3, 7), 0);
        due("map after unmap", x.map(3, 7, 7, false), 0);
    }

    private static void promise3MapTakesEffect() {
        CachedMemory x = fresh();
        x.map(0, 0, 1, false);
        due("store to a page not writable", x.store(0, 5), READ_ONLY);
        x.map(0, 0, 1, true);
        due("store after map makes it writable", x.store(0, 5), 0);
        x.map(0, 0, 1, false);
        due("store after map takes that back", x.store(0, 6), READ_ONLY);
        dueLoad("map leaves the words", x, 0, 5);
        x.map(0, 0, 2, true);
        dueLoad("map to another frame", x, 0, 0);
        x.store(0, 7);
        due("first frame", x.deviceRead(8), 5);
        due("second frame", x.deviceRead(16), 7);
        x.map(1, 0, 3, true);
        due("map of another space", x.translate(0), 16);
    }

    private static void promise4Unmap() {
        CachedMemory x = straight();
        x.map(1, 2, 2, true);
        x.store(17, 44);
        int[] bad = {-1, 8, MIN, MAX};
        for (int b : bad) {
            due("unmap(0, " + b + ")", x.unmap(0, b), BAD);
            due("unmap(" + b + ", 0)", x.unmap(b, 0), BAD);
        }
        due("unmap(4, 0)", x.unmap(4, 0), BAD);
        due("unmap(2, 7)", x.unmap(2, 7), NO_PAGE);
        due("unmap(0, 2)", x.unmap(0, 2), 0);
        due("unmap(0, 2) again", x.unmap(0, 2), NO_PAGE);
        due("unmapped: load", x.load(17), NO_PAGE);
        due("unmapped: store", x.store(17, 1), NO_PAGE);
        due("unmapped: add", x.add(17, 1), NO_PAGE);
        due("unmapped: translate", x.translate(17), NO_PAGE);
        due("unmapped: the word stays", x.deviceRead(17), 44);
        due("unmapped: page 1 stays", x.translate(15), 15);
        due("unmapped: page 3 stays", x.translate(24), 24);
        x.enter(1);
        dueLoad("unmapped: the page of another space stays", x, 17, 44);
        due("unmap(0, 0) from space 1", x.unmap(0, 0), 0);
        due("unmap(3, 7)", x.unmap(3, 7), NO_PAGE);
    }

    private static void promise5Protect() {
        CachedMemory x = fresh();
        x.map(0, 0, 7, true);
        x.map(0, 1, 6, true);
        x.map(3, 7, 7, true);
        x.map(2, 4, 7, false);
        due("store before protect", x.store(0, 1), 0);
        due("store before protect", x.store(8, 2), 0);
        int[] bad = {-1, 8, MIN, MAX};
        for (int b : bad) {
            due("protect(" + b + ")", x.protect(b), BAD);
        }
        due("store after bad protects", x.store(0, 3), 0);
        due("protect(7)", x.protect(7), 2);
        due("protected: store", x.store(0, 4), READ_ONLY);
        due("protected: add", x.add(0, 4), READ_ONLY);
        dueLoad("protected", x, 0, 3);
        due("other frame: store", x.store(8, 5), 0);
        x.enter(3);
        due("protected in space 3: store", x.store(56, 4), READ_ONLY);
        dueLoad("protected in space 3", x, 56, 3);
        x.enter(2);
        due("protected in space 2: store", x.store(32, 4), READ_ONLY);
        due("protect(7) again", x.protect(7), 0);
        due("the device still writes", x.deviceWrite(56, 9), 0);
        dueLoad("protected, written by the device", x, 32, 9);
        due("a later map is writable", x.map(2, 5, 7, true), 0);
        due("store there", x.store(40, 10), 0);
        due("protect(7) counts that one", x.protect(7), 1);
    }

    private static void promise5ProtectCounts() {
        CachedMemory x = fresh();
        due("protect with no entry", x.protect(0), 0);
        for (int s = 0; s < 4; s++) {
            for (int p = 0; p < 8; p++) {
                x.map(s, p, 0, true);
            }
        }
        due("protect(1)", x.protect(1), 0);
        x.unmap(1, 1);
        x.map(2, 2, 0, false);
        x.map(3, 3, 1, true);
        due("protect(0)", x.protect(0), 29);
        due("map after protect", x.map(1, 1, 0, true), 0);
        x.unmap(1, 1);
        due("an empty entry isn't counted", x.protect(0), 0);
        due("the entry that moved to frame 1", x.protect(1), 1);
    }

    private static void promise6Load() {
        CachedMemory x = fresh();
        int[] bad = {-1, 64, MIN, MAX};
        for (int a : bad) {
            due("load(" + a + ")", x.load(a), BAD);
        }
        due("load of an empty page", x.load(0), NO_PAGE);
        due("load of an empty page", x.load(63), NO_PAGE);
        for (int w = 0; w < 64; w++) {
            x.deviceWrite(w, 1000 + w);
        }
        for (int p = 0; p < 8; p++) {
            x.map(0, p, 7 - p, p % 2 == 0);
        }
        for (int a = 0; a < 64; a++) {
            dueLoad("load", x, a, 1000 + 8 * (7 - a / 8) + a % 8);
        }
        x.enter(1);
        due("load of a page empty in space 1", x.load(0), NO_PAGE);
    }

    private static void promise7Last() {
        CachedMemory x = fresh();
        due("last() at first", x.last(), 0);
        x.map(0, 0, 0, true);
        x.store(3, 30);
        due("last() after store", x.last(), 0);
        dueLoad("last", x, 3, 30);
        due("last() again", x.last(), 30);
        x.store(3, 31);
        due("last() is what the load read", x.last(), 30);
        x.add(3, 1);
        due("last() after add", x.last(), 30);
        x.deviceWrite(3, 40);
        x.deviceRead(3);
        x.deviceCopy(3, 4, 1);
        x.translate(4);
        due("last() after the device", x.last(), 30);
        due("load(64)", x.load(64), BAD);
        due("last() after BAD", x.last(), 30);
        due("load(8)", x.load(8), NO_PAGE);
        due("last() after NO_PAGE", x.last(), 30);
        x.enter(2);
        x.map(2, 0, 1, true);
        x.unmap(0, 0);
        due("last() after enter, map and unmap", x.last(), 30);
        dueLoad("last", x, 0, 0);
    }

    private static void promise8Store() {
        CachedMemory x = straight();
        for (int a = 0; a < 64; a++) {
            due("store(" + a + ")", x.store(a, 7 * a - 100), 0);
        }
        for (int a = 0; a < 64; a++) {
            dueLoad("stored", x, a, 7 * a - 100);
        }
        x.store(0, MIN);
        x.store(63, MAX);
        dueLoad("stored", x, 0, MIN);
        dueLoad("stored", x, 63, MAX);
        int[] bad = {-1, 64, MIN, MAX};
        for (int a : bad) {
            due("store(" + a + ")", x.store(a, 1), BAD);
        }
        x.map(0, 3, 3, false);
        due("store to a read-only page", x.store(24, 1), READ_ONLY);
        dueLoad("read-only", x, 24, 68);
        due("read-only: deviceRead", x.deviceRead(24), 68);
        x.unmap(0, 3);
        due("store to an empty page that was read-only", x.store(24, 1), NO_PAGE);
        due("empty: deviceRead", x.deviceRead(24), 68);
    }

    private static void promise9Add() {
        CachedMemory x = straight();
        for (int a = 0; a < 64; a++) {
            due("add(" + a + ")", x.add(a, a), 0);
        }
        for (int a = 0; a < 64; a++) {
            due("add(" + a + ")", x.add(a, -5), 0);
        }
        for (int w = 0; w < 64; w++) {
            due("added: deviceRead(" + w + ")", x.deviceRead(w), w - 5);
        }
        x.deviceWrite(20, 50);
        due("add after deviceWrite", x.add(20, 1), 0);
        dueLoad("added", x, 20, 51);
        int[] bad = {-1, 64, MIN, MAX};
        for (int a : bad) {
            due("add(" + a + ")", x.add(a, 1), BAD);
        }
        x.map(0, 2, 2, false);
        due("add to a read-only page", x.add(20, 1), READ_ONLY);
        dueLoad("read-only", x, 20, 51);
        x.unmap(0, 2);
        due("add to an empty page", x.add(20, 1), NO_PAGE);
        due("empty: deviceRead", x.deviceRead(20), 51);
    }

    private static void promise10DeviceRead() {
        CachedMemory x = straight();
        for (int w = 0; w < 64; w++) {
            x.store(w, w + 1);
            due("deviceRead(" + w + ")", x.deviceRead(w), w + 1);
        }
        for (int w = 63; w >= 0; w--) {
            due("deviceRead(" + w + ")", x.deviceRead(w), w + 1);
        }
        int[] bad = {-1, 64, MIN, MAX};
        for (int w : bad) {
            due("deviceRead(" + w + ")", x.deviceRead(w), 0);
        }
        x.store(10, -9);
        x.unmap(0, 1);
        x.enter(3);
        due("deviceRead needs no page", x.deviceRead(10), -9);
    }

    private static void promise11DeviceWrite() {
        CachedMemory x = straight();
        for (int w = 0; w < 64; w++) {
            x.store(w, w);
            due("deviceWrite(" + w + ")", x.deviceWrite(w, 200 + w), 0);
            dueLoad("deviceWrite", x, w, 200 + w);
        }
        for (int w = 0; w < 64; w++) {
            due("deviceRead(" + w + ")", x.deviceRead(w), 200 + w);
        }
        int[] bad = {-1, 64, MIN, MAX};
        for (int w : bad) {
            due("deviceWrite(" + w + ")", x.deviceWrite(w, 1), BAD);
        }
        for (int w = 0; w < 64; w += 9) {
            due("after bad writes: deviceRead(" + w + ")", x.deviceRead(w), 200 + w);
        }
        x.protect(0);
        due("deviceWrite to a frame that is protected", x.deviceWrite(0, MIN), 0);
        dueLoad("deviceWrite", x, 0, MIN);
        x.store(8, 1);
        x.store(9, 2);
        x.store(11, 3);
        x.deviceWrite(10, 4);
        dueLoad("neighbour of the written word", x, 8, 1);
        dueLoad("neighbour of the written word", x, 9, 2);
        dueLoad("the written word", x, 10, 4);
        dueLoad("neighbour of the written word", x, 11, 3);
    }

    private static void promise12DeviceCopy() {
        CachedMemory x = straight();
        for (int a = 0; a < 8; a++) {
            x.store(a, 10 + a);
            x.store(32 + a, 70 + a);
        }
        due("deviceCopy(2, 33, 5)", x.deviceCopy(2, 33, 5), 5);
        int[] want = {70, 12, 13, 14, 15, 16, 76, 77};
        for (int i = 0; i < 8; i++) {
            dueLoad("copied", x, 32 + i, want[i]);
            due("copied: deviceRead", x.deviceRead(32 + i), want[i]);
            dueLoad("copied from", x, i, 10 + i);
        }
        due("deviceCopy(0, 63, 1)", x.deviceCopy(0, 63, 1), 1);
        dueLoad("copied", x, 63, 10);
        due("deviceCopy(5, 5, 9)", x.deviceCopy(5, 5, 9), 9);
        dueLoad("copied onto itself", x, 7, 17);
        due("deviceCopy(0, 32, 0)", x.deviceCopy(0, 32, 0), 0);
        dueLoad("nothing copied", x, 32, 70);
        x.protect(6);
        due("deviceCopy to a protected frame", x.deviceCopy(0, 48, 8), 8);
        dueLoad("copied", x, 55, 17);
    }

    private static void promise12DeviceCopyOverlaps() {
        CachedMemory x = straight();
        for (int a = 0; a < 16; a++) {
            x.store(a, 10 + a);
        }
        due("deviceCopy(2, 0, 10)", x.deviceCopy(2, 0, 10), 10);
        for (int a = 0; a < 10; a++) {
            dueLoad("copied down", x, a, 12 + a);
        }
        dueLoad("after the copy", x, 10, 20);
        due("deviceCopy(0, 3, 12)", x.deviceCopy(0, 3, 12), 12);
        for (int a = 0; a < 15; a++) {
            dueLoad("copied up", x, a, 12 + a % 3);
        }
        dueLoad("after the copy", x, 15, 25);
        due("deviceCopy(0, 1, 63)", x.deviceCopy(0, 1, 63), 63);
        for (int a = 0; a < 64; a++) {
            dueLoad("filled", x, a, 12);
        }
    }

    private static void promise12DeviceCopyLimits() {
        CachedMemory x = straight();
        x.store(0, 1);
        x.store(63, 2);
        due("deviceCopy(-1, 0, 1)", x.deviceCopy(-1, 0, 1), BAD);
        due("deviceCopy(0, -1, 1)", x.deviceCopy(0, -1, 1), BAD);
        due("deviceCopy(0, 1, -1)", x.deviceCopy(0, 1, -1), BAD);
        due("deviceCopy(-1, 0, 0)", x.deviceCopy(-1, 0, 0), BAD);
        due("deviceCopy(0, -1, 0)", x.deviceCopy(0, -1, 0), BAD);
        due("deviceCopy(MIN, MIN, MIN)", x.deviceCopy(MIN, MIN, MIN), BAD);
        due("deviceCopy(0, 0, 65)", x.deviceCopy(0, 0, 65), BAD);
        due("deviceCopy(1, 0, 64)", x.deviceCopy(1, 0, 64), BAD);
        due("deviceCopy(0, 1, 64)", x.deviceCopy(0, 1, 64), BAD);
        due("deviceCopy(64, 0, 1)", x.deviceCopy(64, 0, 1), BAD);
        due("deviceCopy(0, 64, 1)", x.deviceCopy(0, 64, 1), BAD);
        due("deviceCopy(65, 0, 0)", x.deviceCopy(65, 0, 0), BAD);
        due("deviceCopy(0, 65, 0)", x.deviceCopy(0, 65, 0), BAD);
        due("deviceCopy(64, 64, 0)", x.deviceCopy(64, 64, 0), 0);
        due("deviceCopy(0, 0, 64)", x.deviceCopy(0, 0, 64), 64);
        dueLoad("nothing copied", x, 0, 1);
        dueLoad("nothing copied", x, 1, 0);
        dueLoad("nothing copied", x, 63, 2);
        due("deviceCopy(0, 32, 32)", x.deviceCopy(0, 32, 32), 32);
        dueLoad("copied to the end", x, 63, 0);
        dueLoad("copied", x, 32, 1);
    }

    private static void promise13Translate() {
        CachedMemory x = fresh();
        int[] bad = {-1, 64, MIN, MAX};
        for (int a : bad) {
            due("translate(" + a + ")", x.translate(a), BAD);
        }
        for (int a = 0; a < 64; a += 7) {
            due("translate(" + a + ") of an empty page", x.translate(a), NO_PAGE);
        }
        for (int p = 0; p < 8; p++) {
            x.map(0, p, (3 * p + 5) % 8, p % 2 == 0);
        }
        for (int a = 0; a < 64; a++) {
            due("translate(" + a + ")", x.translate(a), 8 * ((3 * (a / 8) + 5) % 8) + a % 8);
        }
        x.enter(1);
        due("translate(0) in an empty space", x.translate(0), NO_PAGE);
        due("translate reads nothing", x.last(), 0);
    }

    private static void promise14SumWraps() {
        CachedMemory x = straight();
        x.store(5, MAX);
        due("add(5, 1)", x.add(5, 1), 0);
        dueLoad("wrapped", x, 5, MIN);
        due("add(5, -1)", x.add(5, -1), 0);
        dueLoad("wrapped back", x, 5, MAX);
        due("add(5, MAX)", x.add(5, MAX), 0);
        dueLoad("wrapped", x, 5, -2);
        x.store(6, MIN);
        due("add(6, MIN)", x.add(6, MIN), 0);
        due("wrapped: deviceRead(6)", x.deviceRead(6), 0);
    }

    private static void promise14ExactSums() {
        CachedMemory x = straight();
        x.store(0, 1);
        due("deviceCopy(MAX, 0, 1)", x.deviceCopy(MAX, 0, 1), BAD);
        due("deviceCopy(0, MAX, 1)", x.deviceCopy(0, MAX, 1), BAD);
        due("deviceCopy(0, 0, MAX)", x.deviceCopy(0, 0, MAX), BAD);
        due("deviceCopy(1, 0, MAX)", x.deviceCopy(1, 0, MAX), BAD);
        due("deviceCopy(0, 1, MAX)", x.deviceCopy(0, 1, MAX), BAD);
        due("deviceCopy(1, 1, MAX)", x.deviceCopy(1, 1, MAX), BAD);
        due("deviceCopy(MAX, MAX, MAX)", x.deviceCopy(MAX, MAX, MAX), BAD);
        due("deviceCopy(MAX, MAX, 1)", x.deviceCopy(MAX, MAX, 1), BAD);
        due("deviceCopy(MAX, MAX, 0)", x.deviceCopy(MAX, MAX, 0), BAD);
        dueLoad("nothing copied", x, 0, 1);
        dueLoad("nothing copied", x, 1, 0);
    }

    private static void promise14RefusedCallsChangeNothing() {
        CachedMemory x = fresh();
        x.map(2, 1, 4, false);
        x.map(2, 2, 4, true);
        x.enter(2);
        for (int i = 0; i < 8; i++) {
            x.store(16 + i, 60 + i);
        }
        dueLoad("before", x, 8, 60);
        due("refused: enter", x.enter(4), BAD);
        due("refused: map", x.map(2, 1, 8, true), BAD);
        due("refused: map", x.map(2, 8, 1, true), BAD);
        due("refused: unmap", x.unmap(2, 8), BAD);
        due("refused: unmap", x.unmap(2, 0), NO_PAGE);
        due("refused: protect", x.protect(8), BAD);
        due("refused: load", x.load(64), BAD);
        due("refused: load", x.load(0), NO_PAGE);
        due("refused: store", x.store(64, 1), BAD);
        due("refused: store", x.store(0, 1), NO_PAGE);
        due("refused: store", x.store(8, 1), READ_ONLY);
        due("refused: add", x.add(-1, 1), BAD);
        due("refused: add", x.add(63, 1), NO_PAGE);
        due("refused: add", x.add(9, 1), READ_ONLY);
        due("refused: deviceWrite", x.deviceWrite(64, 1), BAD);
        due("refused: deviceCopy", x.deviceCopy(32, 60, 5), BAD);
        due("refused: deviceCopy", x.deviceCopy(60, 32, 5), BAD);
        due("refused: translate", x.translate(64), BAD);
        due("refused: translate", x.translate(0), NO_PAGE);
        due("last() stays", x.last(), 60);
        for (int w = 0; w < 64; w++) {
            due("words stay: deviceRead(" + w + ")", x.deviceRead(w), w / 8 == 4 ? 28 + w : 0);
        }
        due("entries stay", x.translate(15), 39);
        due("entries stay", x.store(8, 1), READ_ONLY);
        due("entries stay", x.store(16, 1), 0);
        due("entries stay", x.protect(4), 1);
    }

    /** One word under several names, with other words read between so that lines and translations are pushed out. */
    private static void readsShowTheLatestValue() {
        CachedMemory x = straight();
        for (int s = 1; s < 4; s++) {
            for (int p = 0; p < 8; p++) {
                x.map(s, p, 7 - p, true);
            }
        }
        for (int round = 0; round < 8; round++) {
            int w = 9 * round;
            int other = 8 * (7 - w / 8) + w % 8;
            x.enter(0);
            x.store(w, 500 + round);
            x.enter(1 + round % 3);
            dueLoad("seen from another space", x, other, 500 + round);
            x.add(other, 100);
            for (int p = 0; p < 8; p++) {
                x.load(8 * p + round % 8);
            }
            x.enter(0);
            dueLoad("seen from space 0", x, w, 600 + round);
            due("seen by the device", x.deviceRead(w), 600 + round);
            x.deviceWrite(w, 700 + round);
            x.enter(3);
            dueLoad("seen from space 3", x, other, 700 + round);
        }
        for (int round = 0; round < 8; round++) {
            due("at the end: deviceRead(" + 9 * round + ")", x.deviceRead(9 * round), 700 + round);
        }
    }

    private static void objectsAreSeparate() {
        CachedMemory x = straight();
        CachedMemory y = straight();
        x.store(1, 11);
        y.store(1, 22);
        dueLoad("first object", x, 1, 11);
        dueLoad("second object", y, 1, 22);
        y.enter(1);
        due("first object stays in space 0", x.translate(1), 1);
    }
}

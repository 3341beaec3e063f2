import java.util.Arrays;
import java.util.function.ToIntFunction;

/**
 * One test for each sentence of the document that names a boundary case: too small, too large, empty, full,
 * a wrap-around, a refused call. Each quotes its sentence, makes its own objects and runs for all sizes of cache
 * and buffer; no object gets more than 512 calls.
 */
public final class BoundaryTests {
    private static final int MIN = Integer.MIN_VALUE;
    private static final int MAX = Integer.MAX_VALUE;
    private static final int BAD = -1;
    private static final int NO_PAGE = -2;
    private static final int READ_ONLY = -3;
    private static final int OK = 0;
    private static final int MOST_TOLD = 200;

    // The far ones look small again once they are cut to a byte or a short or multiplied by 8.
    private static final int[] TOO_SMALL = {-1, -2, -8, -64, -256, -65536, -(1 << 29), MIN + 1, MIN};
    private static final int[] FAR_TOO_LARGE = {256, 65536, 1 << 29, 1 << 30, MAX - 1, MAX};

    private static int wrong = 0;
    private static int lines;
    private static int buffer;
    private static String sentence;

    public static void main(String[] args) {
        int[] sizes = {MIN, -1, 0, 1, 2, 3, 4, 5, MAX};
        for (int l : sizes) {
            for (int b : sizes) {
                lines = l;
                buffer = b;
                terms();
                promises1To5();
                promises6To9();
                promises10To13();
                promise14();
            }
        }
        promise1Sizes();
        System.out.println(wrong == 0 ? "all answers are as due" : wrong + " answers are not as due");
        if (wrong != 0) {
            System.exit(1);
        }
    }

    private static void test(String quoted, Runnable body) {
        sentence = quoted;
        try {
            body.run();
        } catch (RuntimeException | Error thrown) {
            tell("threw " + thrown);
        }
    }

    private static void terms() {
        test("What it is: at most 512 calls after it has been made", BoundaryTests::call512IsAnswered);
        test("What it is: what later calls answer is free (LANGUAGE 7: but none throws)", BoundaryTests::laterCallsEnd);
        test("Terms: 64 physical words, 0 to 63", BoundaryTests::firstAndLastWord);
        test("Terms: frame f has words 8 * f to 8 * f + 7", BoundaryTests::firstAndLastWordOfEachFrame);
        test("Terms: all ints", BoundaryTests::leastAndGreatestInt);
        test("Terms: 4 SPACES, 0 to 3, each with 8 PAGES, 0 to 7", BoundaryTests::allEntriesAreSeparate);
        test("Terms: an ENTRY is either empty or names a frame", BoundaryTests::anEntryForgetsItsPast);
        test("Terms: Several pages may name the same frame", BoundaryTests::allPagesOnOneFrame);
        test("Terms: address a is word a & 7 of page a >> 3", BoundaryTests::addressesAtPageEdges);
        test("Terms: the latest value, by whomever", BoundaryTests::latestValueByWhomever);
        test("Terms: the latest value, through whichever page", BoundaryTests::latestValueThroughWhicheverPage);
        test("Terms: the latest value, when cache and buffer are full", BoundaryTests::latestValueAfterManyOthers);
    }

    private static void promises1To5() {
        test("1: All words are 0", BoundaryTests::newWordsAreZero);
        test("1: all entries are empty", BoundaryTests::newEntriesAreEmpty);
        test("1: space 0 is current", BoundaryTests::newSpaceIsZero);
        test("2: Makes space s current", BoundaryTests::enterFirstLastAndSame);
        test("2: s outside 0..3: BAD, too small", () -> enterOutside(TOO_SMALL));
        test("2: s outside 0..3: BAD, too large", () -> enterOutside(tooLarge(4)));
        test("3: frame 0 to 7", BoundaryTests::mapFirstAndLastFrame);
        test("3: whether it may be written", BoundaryTests::mapSaysWhetherWritable);
        test("3: s outside 0..3: BAD, too small", () -> mapSpaceOutside(TOO_SMALL));
        test("3: s outside 0..3: BAD, too large", () -> mapSpaceOutside(tooLarge(4)));
        test("3: page outside 0..7: BAD, too small", () -> mapPageOutside(TOO_SMALL));
        test("3: page outside 0..7: BAD, too large", () -> mapPageOutside(tooLarge(8)));
        test("3: frame outside 0..7: BAD, too small", () -> mapFrameOutside(TOO_SMALL));
        test("3: frame outside 0..7: BAD, too large", () -> mapFrameOutside(tooLarge(8)));
        test("3: Answers OK if the entry was empty", BoundaryTests::mapOfAnEmptyEntry);
        test("3: else 1", BoundaryTests::mapOfAUsedEntry);
        test("4: s outside 0..3: BAD, too small", () -> unmapSpaceOutside(TOO_SMALL));
        test("4: s outside 0..3: BAD, too large", () -> unmapSpaceOutside(tooLarge(4)));
        test("4: page outside 0..7: BAD, too small", () -> unmapPageOutside(TOO_SMALL));
        test("4: page outside 0..7: BAD, too large", () -> unmapPageOutside(tooLarge(8)));
        test("4: it is empty: NO_PAGE", BoundaryTests::unmapOfAnEmptyEntry);
        test("4: Makes the entry of a page empty; Else OK", BoundaryTests::unmapOfAUsedEntry);
        test("5: every page of all spaces that names this frame", BoundaryTests::protectReachesAllSpaces);
        test("5: frame outside 0..7: BAD, too small", () -> protectOutside(TOO_SMALL));
        test("5: frame outside 0..7: BAD, too large", () -> protectOutside(tooLarge(8)));
        test("5: how many of the entries that name this frame, none", BoundaryTests::protectCountsNone);
        test("5: how many of the entries that name this frame, all", BoundaryTests::protectCountsAll);
        test("5: were writable before the call", BoundaryTests::protectCountsWritableOnes);
    }

    private static void promises6To9() {
        test("6: BAD for a outside 0..63, too small", () -> loadOutside(TOO_SMALL));
        test("6: BAD for a outside 0..63, too large", () -> loadOutside(tooLarge(64)));
        test("6: NO_PAGE if the current space's entry is empty", BoundaryTests::loadOfAnEmptyPage);
        test("6: else OK, and the value can be fetched by last()", BoundaryTests::loadOfFirstAndLastAddress);
        test("7: 0 before any", BoundaryTests::lastBeforeAnyLoad);
        test("7: the latest load that answered OK", BoundaryTests::lastAfterRefusedLoads);
        test("7: the value that the load read", BoundaryTests::lastAfterOtherCalls);
        test("8: BAD for a outside 0..63, too small", () -> storeOutside(TOO_SMALL));
        test("8: BAD for a outside 0..63, too large", () -> storeOutside(tooLarge(64)));
        test("8: NO_PAGE if the current space's entry is empty", BoundaryTests::storeToAnEmptyPage);
        test("8: READ_ONLY if the page may not be written", BoundaryTests::storeToAReadOnlyPage);
        test("8: else OK", BoundaryTests::storeToFirstAndLastAddress);
        test("9: answers as store does: BAD, too small", () -> addOutside(TOO_SMALL));
        test("9: answers as store does: BAD, too large", () -> addOutside(tooLarge(64)));
        test("9: answers as store does: NO_PAGE", BoundaryTests::addToAnEmptyPage);
        test("9: answers as store does: READ_ONLY", BoundaryTests::addToAReadOnlyPage);
        test("9: Adds to the word; OK", BoundaryTests::addToFirstAndLastAddress);
    }

    private static void promises10To13() {
        test("10: 0 for w outside 0..63, too small", () -> deviceReadOutside(TOO_SMALL));
        test("10: 0 for w outside 0..63, too large", () -> deviceReadOutside(tooLarge(64)));
        test("10: What the device reads in a physical word", BoundaryTests::deviceReadOfFirstAndLastWord);
        test("11: w outside 0..63: BAD, too small", () -> deviceWriteOutside(TOO_SMALL));
        test("11: w outside 0..63: BAD, too large", () -> deviceWriteOutside(tooLarge(64)));
        test("11: Else OK", BoundaryTests::deviceWriteOfFirstAndLastWord);
        test("12: a word written by this copy is read with its new value", BoundaryTests::copyUpOverItself);
        test("12: one after the other in ascending order", BoundaryTests::copyDownOverItself);
        test("12: copies count words, none", BoundaryTests::copyOfNoWord);
        test("12: copies count words, all", BoundaryTests::copyOfAllWords);
        test("12: copies count words, and no other", BoundaryTests::copyStopsAfterCount);
        test("12: from negative: BAD", BoundaryTests::copyFromNegative);
        test("12: to negative: BAD", BoundaryTests::copyToNegative);
        test("12: count negative: BAD", BoundaryTests::copyCountNegative);
        test("12: from + count above 64: BAD", BoundaryTests::copyFromAboveEnd);
        test("12: to + count above 64: BAD", BoundaryTests::copyToAboveEnd);
        test("12: from + count or to + count just 64", BoundaryTests::copyUpToTheEnd);
        test("12: Else answers count", BoundaryTests::copyAnswersCount);
        test("13: BAD for a outside 0..63, too small", () -> translateOutside(TOO_SMALL));
        test("13: BAD for a outside 0..63, too large", () -> translateOutside(tooLarge(64)));
        test("13: NO_PAGE if the entry is empty", BoundaryTests::translateOfAnEmptyPage);
        test("13: The physical word that an address stands for", BoundaryTests::translateFirstAndLastAddress);
    }

    private static void promise14() {
        test("14: the sum wraps as in Java, upwards", BoundaryTests::sumWrapsUp);
        test("14: the sum wraps as in Java, downwards", BoundaryTests::sumWrapsDown);
        test("14: from + count is an exact sum", BoundaryTests::exactSumOfFrom);
        test("14: to + count is an exact sum", BoundaryTests::exactSumOfTo);
        test("14: BAD changes nothing: enter, map, unmap, protect", BoundaryTests::refusedTableCalls);
        test("14: BAD changes nothing: load, store, add, translate", BoundaryTests::refusedProgramCalls);
        test("14: BAD changes nothing: deviceWrite", BoundaryTests::refusedDeviceWrites);
        test("14: deviceCopy copies no word then", BoundaryTests::refusedDeviceCopies);
        test("14: NO_PAGE changes nothing", BoundaryTests::refusedForWantOfAPage);
        test("14: READ_ONLY changes nothing", BoundaryTests::refusedAsReadOnly);
        test("14: last() stays", BoundaryTests::lastStaysAfterRefusals);
    }

    private static void promise1Sizes() {
        test("1: lines, clamped into 1..4, too small", () -> sizesOfOneKind(new int[] {0, -1, -4, MIN}, new int[] {1, 4}));
        test("1: lines, clamped into 1..4, too large", () -> sizesOfOneKind(new int[] {5, 8, 64, MAX}, new int[] {1, 4}));
        test("1: buffer, clamped into 1..4, too small", () -> sizesOfOneKind(new int[] {1, 4}, new int[] {0, -1, -4, MIN}));
        test("1: buffer, clamped into 1..4, too large", () -> sizesOfOneKind(new int[] {1, 4}, new int[] {5, 8, 64, MAX}));
        test("1: they show in no answer", () -> sizesOfOneKind(new int[] {1, 2, 3, 4}, new int[] {1, 2, 3, 4}));
    }

    // ---- helpers

    private static void tell(String what) {
        wrong++;
        if (wrong <= MOST_TOLD) {
            System.out.println("CachedMemory(" + lines + ", " + buffer + "), \"" + sentence + "\": " + what);
        }
    }

    private static void due(String call, int got, int want) {
        if (got != want) {
            tell(call + " answered " + got + ", due is " + want);
        }
    }

    private static void dueLoad(CachedMemory x, int a, int want) {
        due("load(" + a + ")", x.load(a), OK);
        due("last() after load(" + a + ")", x.last(), want);
    }

    private static int[] tooLarge(int bound) {
        int[] numbers = Arrays.copyOf(FAR_TOO_LARGE, FAR_TOO_LARGE.length + 2);
        numbers[FAR_TOO_LARGE.length] = bound;
        numbers[FAR_TOO_LARGE.length + 1] = bound + 1;
        return numbers;
    }

    private static CachedMemory fresh() {
        return new CachedMemory(lines, buffer);
    }

    /** Page p of space 0 is frame p, writable, and word w is 100 + w: 72 calls. */
    private static CachedMemory straight() {
        CachedMemory x = fresh();
        for (int p = 0; p < 8; p++) {
            x.map(0, p, p, true);
        }
        for (int a = 0; a < 64; a++) {
            x.store(a, 100 + a);
        }
        return x;
    }

    /**
     * Entries of each kind, words that only the cache has, space 2 current, 203 the last value: 41 calls.
     * In space 2, page 0 is frame 0 and page 7 frame 7, both writable, page 1 is frame 0, not writable,
     * page 2 is frame 5, not writable, page 3 was not writable and is empty again, the others were never set.
     */
    private static CachedMemory busy() {
        CachedMemory x = fresh();
        for (int s = 0; s < 4; s++) {
            x.map(s, 0, s == 2 ? 0 : s + 3, true);
            x.map(s, 7, s == 2 ? 7 : s, s != 1);
        }
        x.map(2, 1, 0, false);
        x.map(2, 2, 5, false);
        x.map(2, 3, 4, false);
        x.enter(2);
        x.load(24);
        x.unmap(2, 3);
        for (int i = 0; i < 8; i++) {
            x.store(i, 200 + i);
            x.store(56 + i, 300 + i);
            x.deviceWrite(40 + i, 400 + i);
        }
        x.load(16);
        x.load(8);
        x.load(3);
        return x;
    }

    /** The object is still as busy() made it; 187 calls, none of which is refused if so. */
    private static void dueBusy(String after, CachedMemory x) {
        due(after + ": last()", x.last(), 203);
        int[] pages = {0, 1, 2, 7};
        int[] frames = {0, 0, 5, 7};
        for (int k = 0; k < 4; k++) {
            due(after + ": translate(" + 8 * pages[k] + ")", x.translate(8 * pages[k]), 8 * frames[k]);
            for (int i = 0; i < 8; i++) {
                dueLoad(x, 8 * pages[k] + i, busyWord(8 * frames[k] + i));
            }
        }
        for (int w = 0; w < 64; w++) {
            due(after + ": deviceRead(" + w + ")", x.deviceRead(w), busyWord(w));
        }
        due(after + ": writable in space 2: add(0, 0)", x.add(0, 0), OK);
        due(after + ": writable in space 2: add(56, 0)", x.add(56, 0), OK);
        int[] firstFrames = {3, 4, 0, 6};
        for (int s = 0; s < 4; s++) {
            x.enter(s);
            due(after + ": space " + s + ": translate(0)", x.translate(0), 8 * firstFrames[s]);
            due(after + ": space " + s + ": translate(63)", x.translate(63), s == 2 ? 63 : 8 * s + 7);
        }
        dueEntries(after, x, new int[] {2, 0, 0, 2, 1, 0, 1, 1}, new int[] {0x81, 0x81, 0x87, 0x81});
    }

    private static int busyWord(int w) {
        int i = w % 8;
        return w < 8 ? 200 + i : w >= 56 ? 300 + i : w / 8 == 5 ? 400 + i : 0;
    }

    /** The object is still as straight() made it; 249 calls, none of which is refused if so. */
    private static void dueStraight(String after, CachedMemory x) {
        due(after + ": last()", x.last(), 0);
        for (int a = 0; a < 64; a++) {
            dueLoad(x, a, 100 + a);
        }
        for (int w = 0; w < 64; w++) {
            due(after + ": deviceRead(" + w + ")", x.deviceRead(w), 100 + w);
        }
        for (int p = 0; p < 8; p++) {
            due(after + ": translate(" + 8 * p + ")", x.translate(8 * p), 8 * p);
            due(after + ": writable: add(" + 8 * p + ", 0)", x.add(8 * p, 0), OK);
        }
        dueEntries(after, x, new int[] {1, 1, 1, 1, 1, 1, 1, 1}, new int[] {0xff, 0, 0, 0});
    }

    /** How many writable entries name each frame, and which pages of each space have one, as bits. */
    private static void dueEntries(String after, CachedMemory x, int[] writable, int[] used) {
        for (int f = 0; f < 8; f++) {
            due(after + ": protect(" + f + ")", x.protect(f), writable[f]);
        }
        for (int s = 0; s < 4; s++) {
            for (int p = 0; p < 8; p++) {
                due(after + ": map(" + s + ", " + p + ")", x.map(s, p, 0, false), used[s] >> p & 1);
            }
        }
    }

    /** A call on a busy object has the answer that is due and leaves all as it was. */
    private static void refused(String call, ToIntFunction<CachedMemory> made, int want) {
        CachedMemory x = busy();
        due(call, made.applyAsInt(x), want);
        dueBusy("after " + call, x);
    }

    // ---- what it is, and the terms

    /** A row of 511 calls, the 512th is each method in turn. Word w is then 8, or 7 from word 54 on. */
    private static void call512IsAnswered() {
        due("512th enter(3)", used511().enter(3), OK);
        due("512th map", used511().map(3, 7, 7, true), OK);
        due("512th map", used511().map(0, 7, 7, false), 1);
        due("512th unmap", used511().unmap(0, 7), OK);
        due("512th unmap", used511().unmap(3, 7), NO_PAGE);
        due("512th protect(5)", used511().protect(5), 1);
        due("512th load(63)", used511().load(63), OK);
        due("512th last()", used511().last(), 3);
        due("512th store", used511().store(0, 1), OK);
        due("512th add", used511().add(64, 1), BAD);
        due("512th deviceRead(53)", used511().deviceRead(53), 8);
        due("512th deviceRead(54)", used511().deviceRead(54), 7);
        due("512th deviceWrite", used511().deviceWrite(63, 1), OK);
        due("512th deviceCopy", used511().deviceCopy(0, 1, 63), 63);
        due("512th translate(63)", used511().translate(63), 63);
    }

    private static CachedMemory used511() {
        CachedMemory x = fresh();
        for (int p = 0; p < 8; p++) {
            due("map", x.map(0, p, p, true), OK);
        }
        for (int i = 0; i < 502; i++) {
            due("add", x.add(i % 64, 1), OK);
            if (i == 191) {
                due("load", x.load(63), OK);
            }
        }
        return x;
    }

    private static void laterCallsEnd() {
        CachedMemory x = straight();
        for (int i = 0; i < 1200; i++) {
            int n = i * 37 % 70 - 3;
            x.enter(n);
            x.map(n % 5, n % 9, n % 10, i % 3 == 0);
            x.store(n, i);
            x.load(n);
            x.add(n, i);
            x.deviceWrite(n, i);
            x.deviceRead(n);
            x.deviceCopy(n, i % 65, i % 7);
            x.translate(n);
            x.unmap(n % 5, i % 9);
            x.protect(i % 9);
            x.last();
        }
    }

    private static void firstAndLastWord() {
        CachedMemory x = fresh();
        due("deviceWrite(0)", x.deviceWrite(0, 11), OK);
        due("deviceWrite(63)", x.deviceWrite(63, 22), OK);
        due("deviceWrite(64)", x.deviceWrite(64, 33), BAD);
        due("deviceWrite(-1)", x.deviceWrite(-1, 44), BAD);
        for (int w = 0; w < 64; w++) {
            due("deviceRead(" + w + ")", x.deviceRead(w), w == 0 ? 11 : w == 63 ? 22 : 0);
        }
    }

    private static void firstAndLastWordOfEachFrame() {
        CachedMemory x = fresh();
        for (int f = 0; f < 8; f++) {
            x.map(0, 7 - f, f, true);
            x.store(8 * (7 - f), 1000 + f);
            x.store(8 * (7 - f) + 7, 2000 + f);
        }
        for (int f = 0; f < 8; f++) {
            due("first word of frame " + f, x.deviceRead(8 * f), 1000 + f);
            for (int i = 1; i < 7; i++) {
                due("word " + i + " of frame " + f, x.deviceRead(8 * f + i), 0);
            }
            due("last word of frame " + f, x.deviceRead(8 * f + 7), 2000 + f);
        }
    }

    private static void leastAndGreatestInt() {
        int[] values = {MIN, MIN + 1, -65537, -129, -1, 0, 255, 65535, MAX - 1, MAX};
        CachedMemory x = straight();
        for (int v : values) {
            x.store(9, v);
            dueLoad(x, 9, v);
            due("stored: deviceRead(9)", x.deviceRead(9), v);
            x.deviceWrite(10, v);
            dueLoad(x, 10, v);
            x.deviceCopy(10, 60, 1);
            dueLoad(x, 60, v);
            x.store(11, 0);
            x.add(11, v);
            dueLoad(x, 11, v);
        }
    }

    private static void allEntriesAreSeparate() {
        for (int one = 0; one < 32; one++) {
            CachedMemory x = fresh();
            due("map", x.map(one / 8, one % 8, 3, true), OK);
            for (int s = 0; s < 4; s++) {
                x.enter(s);
                for (int p = 0; p < 8; p++) {
                    boolean set = s * 8 + p == one;
                    due("space " + s + ": translate(" + (8 * p + 5) + ")", x.translate(8 * p + 5), set ? 29 : NO_PAGE);
                    due("space " + s + ": store(" + (8 * p + 5) + ")", x.store(8 * p + 5, 1), set ? OK : NO_PAGE);
                }
            }
        }
    }

    private static void anEntryForgetsItsPast() {
        CachedMemory x = fresh();
        x.map(1, 4, 6, true);
        x.enter(1);
        due("store", x.store(32, 5), OK);
        due("unmap", x.unmap(1, 4), OK);
        due("an empty entry names no frame: protect(6)", x.protect(6), 0);
        due("an empty entry: translate(32)", x.translate(32), NO_PAGE);
        due("map", x.map(1, 4, 2, false), OK);
        due("set again: translate(32)", x.translate(32), 16);
        due("set again: store(32)", x.store(32, 6), READ_ONLY);
        due("the first frame isn't named: protect(6)", x.protect(6), 0);
        due("set again, not writable: protect(2)", x.protect(2), 0);
        due("unmap", x.unmap(1, 4), OK);
        due("map", x.map(1, 4, 2, true), OK);
        due("set again, writable: store(32)", x.store(32, 7), OK);
        due("set again, writable: protect(2)", x.protect(2), 1);
    }

    private static void allPagesOnOneFrame() {
        CachedMemory x = fresh();
        for (int s = 0; s < 4; s++) {
            for (int p = 0; p < 8; p++) {
                due("map", x.map(s, p, 7, true), OK);
            }
        }
        for (int s = 0; s < 4; s++) {
            x.enter(s);
            for (int p = 0; p < 8; p++) {
                dueLoad(x, 8 * p + 7, 8 * s + p);
                due("translate", x.translate(8 * p + 7), 63);
                due("add", x.add(8 * p + 7, 1), OK);
                due("deviceRead(63)", x.deviceRead(63), 8 * s + p + 1);
            }
        }
    }

    private static void addressesAtPageEdges() {
        int[] frames = {5, 2, 7, 0, 6, 1, 4, 3};
        CachedMemory x = fresh();
        for (int p = 0; p < 8; p++) {
            x.map(0, p, frames[p], true);
        }
        for (int w = 0; w < 64; w++) {
            x.deviceWrite(w, 1000 + w);
        }
        for (int p = 0; p < 8; p++) {
            int first = 8 * frames[p];
            due("translate(" + 8 * p + ")", x.translate(8 * p), first);
            due("translate(" + (8 * p + 7) + ")", x.translate(8 * p + 7), first + 7);
            dueLoad(x, 8 * p, 1000 + first);
            dueLoad(x, 8 * p + 7, 1007 + first);
            due("store(" + (8 * p + 7) + ")", x.store(8 * p + 7, 50 + p), OK);
            due("deviceRead(" + (first + 7) + ")", x.deviceRead(first + 7), 50 + p);
            due("add(" + 8 * p + ")", x.add(8 * p, 1), OK);
            due("deviceRead(" + first + ")", x.deviceRead(first), 1001 + first);
        }
    }

    /** Word 10, which is was, becomes value in one of four ways. */
    private static void write(CachedMemory x, int how, int was, int value) {
        switch (how) {
            case 0: due("store", x.store(10, value), OK); return;
            case 1: due("add", x.add(10, value - was), OK); return;
            case 2: due("deviceWrite", x.deviceWrite(10, value), OK); return;
            default:
                due("store", x.store(50, value), OK);
                due("deviceCopy", x.deviceCopy(50, 10, 1), 1);
        }
    }

    /** What is in word 10, read in one of four ways; the fourth adds 1 to it. */
    private static int read(CachedMemory x, int how) {
        switch (how) {
            case 0:
                due("load(10)", x.load(10), OK);
                return x.last();
            case 1: return x.deviceRead(10);
            case 2:
                due("deviceCopy", x.deviceCopy(10, 30, 1), 1);
                due("load(30)", x.load(30), OK);
                return x.last();
            default:
                due("add", x.add(10, 1), OK);
                return x.deviceRead(10) - 1;
        }
    }

    private static void latestValueByWhomever() {
        for (int before = 0; before < 4; before++) {
            for (int how = 0; how < 4; how++) {
                for (int reader = 0; reader < 4; reader++) {
                    CachedMemory x = straight();
                    dueLoad(x, 10, 110);
                    x.store(9, 7);
                    x.store(11, 8);
                    write(x, before, 110, 4);
                    due("written in way " + before + ", read in way " + reader, read(x, reader), 4);
                    write(x, how, reader == 3 ? 5 : 4, 9);
                    due("written in way " + how + " after way " + before + ", read in way " + reader, read(x, reader), 9);
                    dueLoad(x, 9, 7);
                    dueLoad(x, 11, 8);
                }
            }
        }
    }

    private static void latestValueThroughWhicheverPage() {
        CachedMemory x = fresh();
        x.map(0, 0, 4, true);
        x.map(0, 7, 4, true);
        x.map(3, 2, 4, true);
        x.map(3, 0, 4, false);
        x.store(6, 1);
        dueLoad(x, 62, 1);
        x.store(62, 2);
        dueLoad(x, 6, 2);
        x.enter(3);
        dueLoad(x, 6, 2);
        dueLoad(x, 22, 2);
        x.store(22, 3);
        dueLoad(x, 6, 3);
        x.enter(0);
        dueLoad(x, 6, 3);
        dueLoad(x, 62, 3);
        x.deviceWrite(38, 4);
        dueLoad(x, 62, 4);
        x.unmap(0, 7);
        dueLoad(x, 6, 4);
        x.store(6, 5);
        x.map(0, 7, 4, false);
        dueLoad(x, 62, 5);
    }

    private static void latestValueAfterManyOthers() {
        CachedMemory x = fresh();
        for (int p = 0; p < 8; p++) {
            x.map(0, p, p, true);
            x.map(1, p, 7 - p, true);
        }
        for (int w = 0; w < 64; w++) {
            x.store(w, 600 + w);
        }
        x.enter(1);
        for (int a = 63; a >= 0; a--) {
            x.add(a, 1000);
        }
        for (int a = 0; a < 64; a++) {
            dueLoad(x, a, 1600 + 8 * (7 - a / 8) + a % 8);
        }
        for (int w = 0; w < 64; w++) {
            due("deviceRead(" + w + ")", x.deviceRead(w), 1600 + w);
        }
    }

    // ---- promise 1

    private static void newWordsAreZero() {
        CachedMemory x = fresh();
        for (int w = 0; w < 64; w++) {
            due("deviceRead(" + w + ")", x.deviceRead(w), 0);
        }
        CachedMemory y = fresh();
        for (int a = 0; a < 64; a++) {
            y.map(0, a / 8, a / 8, true);
            dueLoad(y, a, 0);
        }
    }

    private static void newEntriesAreEmpty() {
        CachedMemory x = fresh();
        for (int f = 0; f < 8; f++) {
            due("protect(" + f + ")", x.protect(f), 0);
        }
        for (int s = 0; s < 4; s++) {
            x.enter(s);
            for (int p = 0; p < 8; p++) {
                due("translate", x.translate(8 * p), NO_PAGE);
                due("load", x.load(8 * p), NO_PAGE);
                due("unmap(" + s + ", " + p + ")", x.unmap(s, p), NO_PAGE);
            }
        }
        CachedMemory y = fresh();
        for (int s = 3; s >= 0; s--) {
            for (int p = 7; p >= 0; p--) {
                due("map(" + s + ", " + p + ")", y.map(s, p, 0, false), OK);
            }
        }
    }

    private static void newSpaceIsZero() {
        for (int s = 0; s < 4; s++) {
            CachedMemory x = fresh();
            x.map(s, 6, 1, true);
            due("only space " + s + " is mapped: load(48)", x.load(48), s == 0 ? OK : NO_PAGE);
            due("only space " + s + " is mapped: translate(48)", x.translate(48), s == 0 ? 8 : NO_PAGE);
        }
    }

    private static void sizesOfOneKind(int[] allLines, int[] allBuffers) {
        int[] want = answersOfALongRun(2, 2);
        for (int l : allLines) {
            for (int b : allBuffers) {
                lines = l;
                buffer = b;
                due("first call of a row that differs from that of CachedMemory(2, 2)", Arrays.mismatch(answersOfALongRun(l, b), want), -1);
                latestValueAfterManyOthers();
                allPagesOnOneFrame();
            }
        }
    }

    /** More pages and words in turn than any size can keep: 17 calls, then 70 times 7. */
    private static int[] answersOfALongRun(int l, int b) {
        CachedMemory x = new CachedMemory(l, b);
        int[] answers = new int[507];
        int n = 0;
        answers[n++] = x.last();
        for (int i = 0; i < 16; i++) {
            answers[n++] = x.map(i % 2 * 3, i / 2, i * 5 % 8, i % 5 != 0);
        }
        for (int i = 0; i < 70; i++) {
            int a = i * 29 % 64;
            answers[n++] = x.enter(i % 3 == 0 ? 3 : 0);
            answers[n++] = x.store(a, i);
            answers[n++] = x.add((a + 20) % 64, 3);
            answers[n++] = x.load((a + 41) % 64);
            answers[n++] = x.last();
            answers[n++] = i % 4 == 0 ? x.deviceWrite(i % 64, -i) : x.deviceRead(i % 64);
            answers[n++] = i % 11 == 0 ? x.protect(i % 8) : x.map(0, i % 8, i % 7, true);
        }
        return answers;
    }

    // ---- promise 2

    private static void enterFirstLastAndSame() {
        CachedMemory x = fresh();
        for (int s = 0; s < 4; s++) {
            x.map(s, 0, 7 - s, true);
        }
        int[] order = {0, 3, 3, 0, 0, 1, 2, 1, 3, 2};
        for (int s : order) {
            due("enter(" + s + ")", x.enter(s), OK);
            due("entered " + s + ": translate(1)", x.translate(1), 8 * (7 - s) + 1);
            due("entered " + s + ": add(1)", x.add(1, 1), OK);
        }
        int[] times = {3, 2, 2, 3};
        for (int s = 0; s < 4; s++) {
            due("word of space " + s, x.deviceRead(8 * (7 - s) + 1), times[s]);
        }
    }

    private static void enterOutside(int[] outside) {
        for (int current = 0; current < 4; current++) {
            CachedMemory x = fresh();
            for (int s = 0; s < 4; s++) {
                x.map(s, 0, s, true);
            }
            x.enter(current);
            for (int s : outside) {
                due("enter(" + s + ")", x.enter(s), BAD);
                due("space " + current + " stays: translate(0)", x.translate(0), 8 * current);
            }
        }
    }

    // ---- promise 3

    private static void mapFirstAndLastFrame() {
        CachedMemory x = fresh();
        due("map(0, 0, 0)", x.map(0, 0, 0, true), OK);
        due("map(0, 7, 7)", x.map(0, 7, 7, true), OK);
        due("map(3, 0, 7)", x.map(3, 0, 7, true), OK);
        due("map(3, 7, 0)", x.map(3, 7, 0, true), OK);
        due("translate(0)", x.translate(0), 0);
        due("translate(63)", x.translate(63), 63);
        x.enter(3);
        due("translate(0)", x.translate(0), 56);
        due("translate(63)", x.translate(63), 7);
    }

    private static void mapSaysWhetherWritable() {
        CachedMemory x = fresh();
        boolean[] order = {false, true, true, false, true, false};
        for (boolean writable : order) {
            x.map(0, 3, 2, writable);
            due("mapped " + writable + ": store(24)", x.store(24, 1), writable ? OK : READ_ONLY);
            due("mapped " + writable + ": load(24)", x.load(24), OK);
        }
    }

    private static void mapSpaceOutside(int[] outside) {
        for (int s : outside) {
            refused("map(" + s + ", 0, 1, true)", x -> x.map(s, 0, 1, true), BAD);
            refused("map(" + s + ", 7, 1, false)", x -> x.map(s, 7, 1, false), BAD);
        }
    }

    private static void mapPageOutside(int[] outside) {
        for (int page : outside) {
            // Page -1 of space 3 and page 8 of space 1 stand beside entries of space 2.
            refused("map(1, " + page + ", 1, true)", x -> x.map(1, page, 1, true), BAD);
            refused("map(3, " + page + ", 1, false)", x -> x.map(3, page, 1, false), BAD);
        }
    }

    private static void mapFrameOutside(int[] outside) {
        for (int frame : outside) {
            refused("map(2, 0, " + frame + ", false)", x -> x.map(2, 0, frame, false), BAD);
            refused("map(2, 6, " + frame + ", true)", x -> x.map(2, 6, frame, true), BAD);
        }
    }

    private static void mapOfAnEmptyEntry() {
        CachedMemory x = fresh();
        due("map of a new entry", x.map(0, 0, 0, false), OK);
        due("map of a new entry", x.map(3, 7, 0, true), OK);
        due("map refused", x.map(1, 1, 8, true), BAD);
        due("map after a refused one", x.map(1, 1, 7, true), OK);
        due("unmap", x.unmap(1, 1), OK);
        due("map after unmap", x.map(1, 1, 7, true), OK);
        due("unmap", x.unmap(0, 0), OK);
        due("unmap", x.unmap(0, 0), NO_PAGE);
        due("map after unmap", x.map(0, 0, 0, false), OK);
    }

    private static void mapOfAUsedEntry() {
        CachedMemory x = fresh();
        x.map(0, 0, 0, false);
        due("map to the same", x.map(0, 0, 0, false), 1);
        due("map to another frame", x.map(0, 0, 7, false), 1);
        due("map to writable", x.map(0, 0, 7, true), 1);
        x.protect(7);
        due("map after protect", x.map(0, 0, 7, true), 1);
        x.map(3, 7, 7, true);
        due("map to the same, writable", x.map(3, 7, 7, true), 1);
        x.enter(2);
        due("map of another space's page", x.map(3, 7, 0, false), 1);
    }

    // ---- promise 4

    private static void unmapSpaceOutside(int[] outside) {
        for (int s : outside) {
            refused("unmap(" + s + ", 0)", x -> x.unmap(s, 0), BAD);
            refused("unmap(" + s + ", 7)", x -> x.unmap(s, 7), BAD);
        }
    }

    private static void unmapPageOutside(int[] outside) {
        for (int page : outside) {
            for (int s = 0; s < 4; s++) {
                int space = s;
                refused("unmap(" + s + ", " + page + ")", x -> x.unmap(space, page), BAD);
            }
        }
    }

    private static void unmapOfAnEmptyEntry() {
        CachedMemory x = fresh();
        due("unmap of a new entry", x.unmap(0, 0), NO_PAGE);
        due("unmap of a new entry", x.unmap(3, 7), NO_PAGE);
        x.map(3, 7, 7, false);
        due("unmap", x.unmap(3, 7), OK);
        due("unmap again", x.unmap(3, 7), NO_PAGE);
        due("unmap again", x.unmap(3, 7), NO_PAGE);
        x.map(3, 6, 7, true);
        due("unmap beside a used one", x.unmap(3, 7), NO_PAGE);
        due("unmap of the same page elsewhere", x.unmap(2, 6), NO_PAGE);
    }

    private static void unmapOfAUsedEntry() {
        CachedMemory x = straight();
        x.map(3, 7, 7, false);
        for (int p = 0; p < 8; p++) {
            due("before: load", x.load(8 * p), OK);
            due("unmap(0, " + p + ")", x.unmap(0, p), OK);
            due("after: load", x.load(8 * p), NO_PAGE);
            due("after: translate", x.translate(8 * p), NO_PAGE);
            due("after: store", x.store(8 * p, 1), NO_PAGE);
            due("the word stays", x.deviceRead(8 * p), 100 + 8 * p);
        }
        x.enter(3);
        dueLoad(x, 63, 163);
        due("unmap(3, 7)", x.unmap(3, 7), OK);
        due("after: load", x.load(63), NO_PAGE);
    }

    // ---- promise 5

    private static void protectReachesAllSpaces() {
        for (int f = 0; f < 8; f++) {
            CachedMemory x = fresh();
            for (int s = 0; s < 4; s++) {
                x.map(s, 0, f, true);
                x.map(s, 7, f, true);
                x.map(s, 3, 7 - f, true);
                x.enter(s);
                due("before: store", x.store(0, 1), OK);
                due("before: store", x.store(56, 1), OK);
                due("before: store", x.store(24, 1), OK);
            }
            due("protect(" + f + ")", x.protect(f), 8);
            for (int s = 3; s >= 0; s--) {
                x.enter(s);
                due("after: store", x.store(0, 2), READ_ONLY);
                due("after: add", x.add(63, 2), READ_ONLY);
                due("after: load", x.load(0), OK);
                due("after, of another frame: store", x.store(24, 2), OK);
            }
        }
    }

    private static void protectOutside(int[] outside) {
        for (int frame : outside) {
            refused("protect(" + frame + ")", x -> x.protect(frame), BAD);
        }
    }

    private static void protectCountsNone() {
        CachedMemory x = fresh();
        for (int f = 0; f < 8; f++) {
            due("no page at all: protect(" + f + ")", x.protect(f), 0);
        }
        x.map(0, 0, 0, true);
        for (int f = 1; f < 8; f++) {
            due("only frame 0 is named: protect(" + f + ")", x.protect(f), 0);
        }
        due("store", x.store(0, 1), OK);
        x.unmap(0, 0);
        due("the page is gone: protect(0)", x.protect(0), 0);
    }

    private static void protectCountsAll() {
        for (int f = 0; f < 8; f++) {
            CachedMemory x = fresh();
            for (int i = 0; i < 32; i++) {
                x.map(i / 8, i % 8, f, true);
            }
            due("every page names it: protect(" + f + ")", x.protect(f), 32);
            due("protect(" + f + ") again", x.protect(f), 0);
        }
    }

    private static void protectCountsWritableOnes() {
        CachedMemory x = fresh();
        x.map(0, 0, 7, false);
        due("only a read-only one: protect(7)", x.protect(7), 0);
        x.map(0, 1, 7, true);
        x.map(3, 7, 7, true);
        x.map(3, 6, 6, true);
        due("two writable, one not: protect(7)", x.protect(7), 2);
        due("all read-only now: protect(7)", x.protect(7), 0);
        x.map(0, 0, 7, true);
        due("one is writable again: protect(7)", x.protect(7), 1);
        x.map(3, 6, 7, false);
        due("one came from another frame: protect(7)", x.protect(7), 0);
        due("it left that one: protect(6)", x.protect(6), 0);
    }

    // ---- promises 6 and 7

    private static void loadOutside(int[] outside) {
        CachedMemory x = fresh();
        for (int a : outside) {
            due("all empty: load(" + a + ")", x.load(a), BAD);
        }
        CachedMemory y = straight();
        for (int a : outside) {
            due("all mapped: load(" + a + ")", y.load(a), BAD);
            due("last()", y.last(), 0);
        }
    }

    private static void loadOfAnEmptyPage() {
        CachedMemory x = straight();
        due("before: load(63)", x.load(63), OK);
        x.unmap(0, 7);
        for (int a = 56; a < 64; a++) {
            due("load(" + a + ")", x.load(a), NO_PAGE);
        }
        due("beside it: load(55)", x.load(55), OK);
        x.enter(3);
        due("only space 0 has it: load(0)", x.load(0), NO_PAGE);
        x.enter(0);
        due("space 0 has it: load(0)", x.load(0), OK);
        x.map(3, 7, 7, true);
        due("only space 3 has it: load(56)", x.load(56), NO_PAGE);
    }

    private static void loadOfFirstAndLastAddress() {
        CachedMemory x = straight();
        dueLoad(x, 0, 100);
        dueLoad(x, 63, 163);
        x.protect(7);
        dueLoad(x, 63, 163);
        x.map(0, 0, 7, false);
        dueLoad(x, 7, 163);
        dueLoad(x, 0, 156);
    }

    private static void lastBeforeAnyLoad() {
        CachedMemory x = fresh();
        due("last()", x.last(), 0);
        x.map(0, 0, 0, true);
        x.store(0, 9);
        x.add(0, 9);
        x.deviceWrite(1, 9);
        x.deviceRead(1);
        x.deviceCopy(0, 2, 2);
        x.translate(2);
        due("last() after other calls", x.last(), 0);
        x.load(64);
        x.load(-1);
        x.load(63);
        due("last() after refused loads alone", x.last(), 0);
    }

    private static void lastAfterRefusedLoads() {
        CachedMemory x = straight();
        dueLoad(x, 63, 163);
        due("load(64)", x.load(64), BAD);
        due("last()", x.last(), 163);
        due("load(-1)", x.load(-1), BAD);
        due("last()", x.last(), 163);
        x.unmap(0, 0);
        due("load(0)", x.load(0), NO_PAGE);
        due("last()", x.last(), 163);
        due("last() again", x.last(), 163);
        dueLoad(x, 8, 108);
    }

    private static void lastAfterOtherCalls() {
        CachedMemory x = straight();
        dueLoad(x, 20, 120);
        x.store(20, 1);
        due("last() after store there", x.last(), 120);
        x.add(20, 1);
        due("last() after add there", x.last(), 120);
        x.deviceWrite(20, 3);
        due("last() after deviceWrite there", x.last(), 120);
        x.deviceCopy(0, 20, 1);
        due("last() after deviceCopy there", x.last(), 120);
        x.deviceRead(20);
        x.translate(0);
        due("last() after deviceRead and translate", x.last(), 120);
        x.protect(2);
        x.map(0, 2, 5, true);
        x.unmap(0, 2);
        x.enter(1);
        due("last() after the entry is gone", x.last(), 120);
    }

    // ---- promises 8 and 9

    private static void storeOutside(int[] outside) {
        for (int a : outside) {
            due("all empty: store(" + a + ")", fresh().store(a, 1), BAD);
            refused("store(" + a + ", 1)", x -> x.store(a, 1), BAD);
        }
        CachedMemory y = straight();
        for (int a : outside) {
            due("all mapped: store(" + a + ")", y.store(a, 1), BAD);
        }
        dueStraight("after stores outside", y);
    }

    private static void storeToAnEmptyPage() {
        CachedMemory x = straight();
        x.unmap(0, 7);
        due("was writable: store(63)", x.store(63, 1), NO_PAGE);
        x.map(0, 6, 6, false);
        due("not writable: store(55)", x.store(55, 1), READ_ONLY);
        x.unmap(0, 6);
        due("was not writable: store(55)", x.store(55, 1), NO_PAGE);
        due("deviceRead(63)", x.deviceRead(63), 163);
        due("deviceRead(55)", x.deviceRead(55), 155);
        x.enter(3);
        due("never set: store(0)", x.store(0, 1), NO_PAGE);
        due("deviceRead(0)", x.deviceRead(0), 100);
    }

    private static void storeToAReadOnlyPage() {
        CachedMemory x = straight();
        x.map(0, 7, 7, false);
        x.store(0, 100);
        x.protect(0);
        for (int i = 0; i < 8; i++) {
            due("protected: store(" + i + ")", x.store(i, 1), READ_ONLY);
            due("mapped so: store(" + (56 + i) + ")", x.store(56 + i, 1), READ_ONLY);
            due("protected: store of the same value", x.store(i, 100 + i), READ_ONLY);
            dueLoad(x, i, 100 + i);
            dueLoad(x, 56 + i, 156 + i);
            due("deviceRead(" + i + ")", x.deviceRead(i), 100 + i);
        }
        due("beside them: store(8)", x.store(8, 1), OK);
        due("beside them: store(55)", x.store(55, 1), OK);
        x.map(0, 1, 7, true);
        due("through a writable page of the frame: store(15)", x.store(15, 2), OK);
        dueLoad(x, 63, 2);
        due("still read-only: store(63)", x.store(63, 3), READ_ONLY);
        dueLoad(x, 15, 2);
    }

    private static void storeToFirstAndLastAddress() {
        CachedMemory x = straight();
        due("store(0)", x.store(0, -7), OK);
        due("store(63)", x.store(63, -8), OK);
        for (int w = 0; w < 64; w++) {
            due("deviceRead(" + w + ")", x.deviceRead(w), w == 0 ? -7 : w == 63 ? -8 : 100 + w);
        }
    }

    private static void addOutside(int[] outside) {
        for (int a : outside) {
            due("all empty: add(" + a + ")", fresh().add(a, 1), BAD);
            refused("add(" + a + ", 1)", x -> x.add(a, 1), BAD);
        }
        CachedMemory y = straight();
        for (int a : outside) {
            due("all mapped: add(" + a + ")", y.add(a, 1), BAD);
        }
        dueStraight("after adds outside", y);
    }

    private static void addToAnEmptyPage() {
        CachedMemory x = straight();
        x.unmap(0, 7);
        due("was writable: add(63)", x.add(63, 1), NO_PAGE);
        due("was writable: add(63, 0)", x.add(63, 0), NO_PAGE);
        x.map(0, 6, 6, false);
        due("not writable: add(55)", x.add(55, 1), READ_ONLY);
        x.unmap(0, 6);
        due("was not writable: add(55)", x.add(55, 1), NO_PAGE);
        due("deviceRead(63)", x.deviceRead(63), 163);
        due("deviceRead(55)", x.deviceRead(55), 155);
        x.enter(3);
        due("never set: add(0)", x.add(0, 1), NO_PAGE);
        due("deviceRead(0)", x.deviceRead(0), 100);
    }

    private static void addToAReadOnlyPage() {
        CachedMemory x = straight();
        x.map(0, 7, 7, false);
        x.add(0, 0);
        x.protect(0);
        for (int i = 0; i < 8; i++) {
            due("protected: add(" + i + ")", x.add(i, 1), READ_ONLY);
            due("mapped so: add(" + (56 + i) + ")", x.add(56 + i, 1), READ_ONLY);
            due("protected: add of 0", x.add(i, 0), READ_ONLY);
            dueLoad(x, i, 100 + i);
            dueLoad(x, 56 + i, 156 + i);
            due("deviceRead(" + i + ")", x.deviceRead(i), 100 + i);
        }
        due("beside them: add(8)", x.add(8, 1), OK);
        due("beside them: add(55)", x.add(55, 1), OK);
    }

    private static void addToFirstAndLastAddress() {
        CachedMemory x = straight();
        due("add(0)", x.add(0, 7), OK);
        due("add(63)", x.add(63, -8), OK);
        due("add(32) of 0", x.add(32, 0), OK);
        for (int w = 0; w < 64; w++) {
            due("deviceRead(" + w + ")", x.deviceRead(w), w == 0 ? 107 : w == 63 ? 155 : 100 + w);
        }
        due("last()", x.last(), 0);
    }

    // ---- promises 10 and 11

    private static void deviceReadOutside(int[] outside) {
        CachedMemory x = straight();
        for (int w : outside) {
            due("deviceRead(" + w + ")", x.deviceRead(w), 0);
        }
        dueStraight("after device reads outside", x);
    }

    private static void deviceReadOfFirstAndLastWord() {
        CachedMemory x = straight();
        due("deviceRead(0)", x.deviceRead(0), 100);
        due("deviceRead(63)", x.deviceRead(63), 163);
        x.unmap(0, 0);
        x.unmap(0, 7);
        due("without a page: deviceRead(0)", x.deviceRead(0), 100);
        due("without a page: deviceRead(63)", x.deviceRead(63), 163);
    }

    private static void deviceWriteOutside(int[] outside) {
        CachedMemory x = straight();
        for (int w : outside) {
            due("deviceWrite(" + w + ")", x.deviceWrite(w, 1), BAD);
        }
        dueStraight("after device writes outside", x);
    }

    private static void deviceWriteOfFirstAndLastWord() {
        CachedMemory x = straight();
        due("deviceWrite(0)", x.deviceWrite(0, 1), OK);
        due("deviceWrite(63)", x.deviceWrite(63, 2), OK);
        for (int a = 0; a < 64; a++) {
            dueLoad(x, a, a == 0 ? 1 : a == 63 ? 2 : 100 + a);
        }
        x.protect(0);
        x.unmap(0, 7);
        due("to a page not writable: deviceWrite(0)", x.deviceWrite(0, 3), OK);
        due("without a page: deviceWrite(63)", x.deviceWrite(63, 4), OK);
        due("deviceRead(0)", x.deviceRead(0), 3);
        due("deviceRead(63)", x.deviceRead(63), 4);
    }

    // ---- promise 12

    private static void dueCopy(CachedMemory x, int from, int to, int count, int want) {
        due("deviceCopy(" + from + ", " + to + ", " + count + ")", x.deviceCopy(from, to, count), want);
    }

    private static void copyUpOverItself() {
        for (int step = 1; step <= 9; step++) {
            CachedMemory x = straight();
            dueCopy(x, 0, step, 64 - step, 64 - step);
            for (int a = 0; a < 64; a++) {
                dueLoad(x, a, 100 + a % step);
            }
        }
    }

    private static void copyDownOverItself() {
        for (int step = 1; step <= 9; step++) {
            CachedMemory x = straight();
            dueCopy(x, step, 0, 64 - step, 64 - step);
            for (int a = 0; a < 64; a++) {
                dueLoad(x, a, a + step < 64 ? 100 + a + step : 100 + a);
            }
        }
    }

    private static void copyOfNoWord() {
        int[] places = {0, 1, 31, 63, 64};
        CachedMemory x = straight();
        for (int from : places) {
            for (int to : places) {
                dueCopy(x, from, to, 0, 0);
            }
        }
        dueStraight("after copies of no word", x);
    }

    private static void copyOfAllWords() {
        CachedMemory x = straight();
        dueCopy(x, 0, 0, 64, 64);
        dueStraight("after a copy of all words onto themselves", x);
        CachedMemory y = straight();
        dueCopy(y, 32, 0, 32, 32);
        dueCopy(y, 0, 32, 32, 32);
        for (int w = 0; w < 64; w++) {
            due("deviceRead(" + w + ")", y.deviceRead(w), 132 + w % 32);
        }
    }

    private static void copyStopsAfterCount() {
        for (int count = 1; count <= 12; count++) {
            CachedMemory x = straight();
            dueCopy(x, 1, 35, count, count);
            for (int a = 0; a < 64; a++) {
                dueLoad(x, a, a >= 35 && a < 35 + count ? 66 + a : 100 + a);
            }
        }
    }

    private static void copyFromNegative() {
        for (int from : TOO_SMALL) {
            CachedMemory x = straight();
            dueCopy(x, from, 8, 0, BAD);
            dueCopy(x, from, 8, 1, BAD);
            dueCopy(x, from, 0, 64, BAD);
            dueStraight("after copies from " + from, x);
        }
    }

    private static void copyToNegative() {
        for (int to : TOO_SMALL) {
            CachedMemory x = straight();
            dueCopy(x, 8, to, 0, BAD);
            dueCopy(x, 8, to, 1, BAD);
            dueCopy(x, 0, to, 64, BAD);
            dueStraight("after copies to " + to, x);
        }
    }

    private static void copyCountNegative() {
        for (int count : TOO_SMALL) {
            CachedMemory x = straight();
            dueCopy(x, 0, 8, count, BAD);
            dueCopy(x, 63, 0, count, BAD);
            dueCopy(x, 64, 64, count, BAD);
            dueStraight("after copies of " + count, x);
        }
    }

    private static void copyFromAboveEnd() {
        CachedMemory x = straight();
        for (int from = 1; from <= 64; from++) {
            dueCopy(x, from, 0, 65 - from, BAD);
        }
        dueCopy(x, 65, 0, 0, BAD);
        dueCopy(x, 66, 0, 0, BAD);
        dueCopy(x, 1, 0, 64, BAD);
        dueCopy(x, 256, 0, 1, BAD);
        dueCopy(x, 65536, 0, 1, BAD);
        dueStraight("after copies from above the end", x);
    }

    private static void copyToAboveEnd() {
        CachedMemory x = straight();
        for (int to = 1; to <= 64; to++) {
            dueCopy(x, 0, to, 65 - to, BAD);
        }
        dueCopy(x, 0, 65, 0, BAD);
        dueCopy(x, 0, 66, 0, BAD);
        dueCopy(x, 0, 1, 64, BAD);
        dueCopy(x, 0, 256, 1, BAD);
        dueCopy(x, 0, 65536, 1, BAD);
        dueStraight("after copies to above the end", x);
    }

    private static void copyUpToTheEnd() {
        CachedMemory x = straight();
        dueCopy(x, 63, 0, 1, 1);
        dueCopy(x, 61, 4, 3, 3);
        dueCopy(x, 1, 63, 1, 1);
        dueCopy(x, 12, 59, 3, 3);
        dueCopy(x, 64, 0, 0, 0);
        dueCopy(x, 0, 64, 0, 0);
        for (int a = 0; a < 64; a++) {
            int want = a == 0 ? 163 : a >= 4 && a < 7 ? 157 + a : a == 63 ? 101 : a >= 59 && a < 62 ? 53 + a : 100 + a;
            dueLoad(x, a, want);
        }
    }

    private static void copyAnswersCount() {
        CachedMemory x = fresh();
        for (int count = 0; count <= 64; count++) {
            dueCopy(x, 0, 0, count, count);
            dueCopy(x, 64 - count, 0, count, count);
            dueCopy(x, 0, 64 - count, count, count);
        }
        dueCopy(x, 0, 0, 65, BAD);
    }

    // ---- promise 13

    private static void translateOutside(int[] outside) {
        CachedMemory x = fresh();
        for (int a : outside) {
            due("all empty: translate(" + a + ")", x.translate(a), BAD);
        }
        CachedMemory y = straight();
        for (int a : outside) {
            due("all mapped: translate(" + a + ")", y.translate(a), BAD);
        }
    }

    private static void translateOfAnEmptyPage() {
        CachedMemory x = straight();
        due("before: translate(63)", x.translate(63), 63);
        x.unmap(0, 7);
        due("translate(55)", x.translate(55), 55);
        due("translate(56)", x.translate(56), NO_PAGE);
        due("translate(63)", x.translate(63), NO_PAGE);
        x.enter(3);
        due("never set: translate(0)", x.translate(0), NO_PAGE);
        x.enter(0);
        due("translate(0)", x.translate(0), 0);
    }

    private static void translateFirstAndLastAddress() {
        CachedMemory x = fresh();
        x.map(0, 0, 7, true);
        x.map(0, 7, 0, false);
        due("translate(0)", x.translate(0), 56);
        due("translate(7)", x.translate(7), 63);
        due("not writable: translate(56)", x.translate(56), 0);
        due("not writable: translate(63)", x.translate(63), 7);
        x.map(0, 7, 3, false);
        due("set to another frame: translate(63)", x.translate(63), 31);
        x.map(2, 7, 6, false);
        due("set in another space: translate(63)", x.translate(63), 31);
        x.enter(2);
        due("in that space: translate(63)", x.translate(63), 55);
    }

    // ---- promise 14

    private static void sumWrapsUp() {
        CachedMemory x = straight();
        dueSum(x, MAX, 1, MIN);
        dueSum(x, MAX, MAX, -2);
        dueSum(x, 1, MAX, MIN);
        dueSum(x, MAX - 5, 7, MIN + 1);
    }

    private static void sumWrapsDown() {
        CachedMemory x = straight();
        dueSum(x, MIN, -1, MAX);
        dueSum(x, MIN, MIN, 0);
        dueSum(x, -1, MIN, MAX);
        dueSum(x, MIN + 5, -7, MAX - 1);
    }

    private static void dueSum(CachedMemory x, int first, int second, int want) {
        x.store(63, first);
        due("add to " + first + " of " + second, x.add(63, second), OK);
        dueLoad(x, 63, want);
        due("deviceRead(63)", x.deviceRead(63), want);
    }

    private static void exactSumOfFrom() {
        CachedMemory x = straight();
        dueCopy(x, MAX, 0, 1, BAD);
        dueCopy(x, MAX, 0, 64, BAD);
        dueCopy(x, MAX - 63, 0, 64, BAD);
        dueCopy(x, MAX, 0, 0, BAD);
        dueCopy(x, MAX, MAX, MAX, BAD);
        dueCopy(x, 1, 1, MAX, BAD);
        dueCopy(x, 64, 64, MAX, BAD);
        dueStraight("after copies from a sum that would wrap", x);
    }

    private static void exactSumOfTo() {
        CachedMemory x = straight();
        dueCopy(x, 0, MAX, 1, BAD);
        dueCopy(x, 0, MAX, 64, BAD);
        dueCopy(x, 0, MAX - 63, 64, BAD);
        dueCopy(x, 0, MAX, 0, BAD);
        dueCopy(x, MAX, 64, MAX, BAD);
        dueCopy(x, 64, 1, MAX, BAD);
        dueStraight("after copies to a sum that would wrap", x);
    }

    private static void refusedTableCalls() {
        refused("enter(4)", x -> x.enter(4), BAD);
        refused("enter(-1)", x -> x.enter(-1), BAD);
        refused("map(4, 0, 1, true)", x -> x.map(4, 0, 1, true), BAD);
        refused("map(-1, 8, 1, true)", x -> x.map(-1, 8, 1, true), BAD);
        refused("map(2, 8, 1, false)", x -> x.map(2, 8, 1, false), BAD);
        refused("map(2, 0, 8, false)", x -> x.map(2, 0, 8, false), BAD);
        refused("map(2, 1, -1, true)", x -> x.map(2, 1, -1, true), BAD);
        refused("unmap(4, 0)", x -> x.unmap(4, 0), BAD);
        refused("unmap(2, 8)", x -> x.unmap(2, 8), BAD);
        refused("unmap(3, -1)", x -> x.unmap(3, -1), BAD);
        refused("protect(8)", x -> x.protect(8), BAD);
        refused("protect(-1)", x -> x.protect(-1), BAD);
    }

    private static void refusedProgramCalls() {
        refused("load(64)", x -> x.load(64), BAD);
        refused("load(-1)", x -> x.load(-1), BAD);
        refused("store(64, 1)", x -> x.store(64, 1), BAD);
        refused("store(-1, 1)", x -> x.store(-1, 1), BAD);
        refused("add(64, 1)", x -> x.add(64, 1), BAD);
        refused("add(-1, 1)", x -> x.add(-1, 1), BAD);
        refused("translate(64)", x -> x.translate(64), BAD);
        refused("translate(-1)", x -> x.translate(-1), BAD);
    }

    private static void refusedDeviceWrites() {
        refused("deviceWrite(64, 1)", x -> x.deviceWrite(64, 1), BAD);
        refused("deviceWrite(-1, 1)", x -> x.deviceWrite(-1, 1), BAD);
        refused("deviceWrite(MAX, 1)", x -> x.deviceWrite(MAX, 1), BAD);
        refused("deviceWrite(MIN, 1)", x -> x.deviceWrite(MIN, 1), BAD);
    }

    private static void refusedDeviceCopies() {
        refused("deviceCopy(40, 60, 5)", x -> x.deviceCopy(40, 60, 5), BAD);
        refused("deviceCopy(60, 40, 5)", x -> x.deviceCopy(60, 40, 5), BAD);
        refused("deviceCopy(0, 1, 64)", x -> x.deviceCopy(0, 1, 64), BAD);
        refused("deviceCopy(1, 0, 64)", x -> x.deviceCopy(1, 0, 64), BAD);
        refused("deviceCopy(0, 8, MAX)", x -> x.deviceCopy(0, 8, MAX), BAD);
        refused("deviceCopy(-1, 0, 8)", x -> x.deviceCopy(-1, 0, 8), BAD);
        refused("deviceCopy(0, -1, 8)", x -> x.deviceCopy(0, -1, 8), BAD);
        refused("deviceCopy(0, 8, -1)", x -> x.deviceCopy(0, 8, -1), BAD);
    }

    /** Page 3 was set once, page 6 never. */
    private static void refusedForWantOfAPage() {
        int[] pages = {3, 6};
        for (int page : pages) {
            int a = 8 * page + 1;
            refused("unmap(2, " + page + ")", x -> x.unmap(2, page), NO_PAGE);
            refused("load(" + a + ")", x -> x.load(a), NO_PAGE);
            refused("store(" + a + ", 1)", x -> x.store(a, 1), NO_PAGE);
            refused("add(" + a + ", 1)", x -> x.add(a, 1), NO_PAGE);
            refused("translate(" + a + ")", x -> x.translate(a), NO_PAGE);
        }
    }

    /** Pages 1 and 2 aren't writable; the frame of page 1 is in the cache through page 0. */
    private static void refusedAsReadOnly() {
        int[] addresses = {8, 11, 15, 16, 23};
        for (int a : addresses) {
            refused("store(" + a + ", 1)", x -> x.store(a, 1), READ_ONLY);
            refused("add(" + a + ", 1)", x -> x.add(a, 1), READ_ONLY);
        }
    }

    private static void lastStaysAfterRefusals() {
        CachedMemory x = busy();
        due("last()", x.last(), 203);
        x.load(64);
        due("last() after load(64)", x.last(), 203);
        x.load(48);
        due("last() after load(48)", x.last(), 203);
        x.store(8, 1);
        x.add(8, 1);
        due("last() after READ_ONLY", x.last(), 203);
        x.store(48, 1);
        x.add(48, 1);
        x.translate(48);
        x.unmap(2, 6);
        due("last() after NO_PAGE", x.last(), 203);
        x.store(64, 1);
        x.add(-1, 1);
        x.translate(64);
        x.enter(4);
        x.map(0, 0, 8, true);
        x.unmap(0, 8);
        x.protect(8);
        x.deviceWrite(64, 1);
        due("last() after BAD", x.last(), 203);
        x.deviceCopy(0, 0, 65);
        x.deviceCopy(-1, 0, 1);
        due("last() after refused device copies", x.last(), 203);
    }
}

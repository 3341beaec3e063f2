/**
 * Memory behind page tables, a translation buffer and a cache, seen by programs and by a device.
 *
 * Programs go through the translation buffer and the cache, the device goes to the memory itself.
 * The cache is looked up by physical word, so that pages that name the same frame share its lines,
 * and it writes back: a word in a dirty line is newer than the same word in the memory.
 */
public final class CachedMemory {
    public static final int BAD = -1;
    public static final int NO_PAGE = -2;
    public static final int READ_ONLY = -3;
    public static final int OK = 0;

    private static final int REPLACED = 1;
    private static final int NONE = -1;

    private static final int WORDS = 64;
    private static final int SPACES = 4;
    private static final int PAGES = 8;
    private static final int FRAMES = 8;
    private static final int ENTRIES = 32;
    private static final int PAGE_WORDS = 8;

    private static final int WAYS = 2;
    private static final int LINE_WORDS = 4;
    private static final int MOST_LINES = 4;
    private static final int MOST_SLOTS = 8;
    private static final int MOST_CACHED_WORDS = 32;
    private static final int MOST_KEPT = 4;

    private final int[] memory = new int[WORDS];

    // The entry of page p of space s stands at s * PAGES + p.
    private final boolean[] entryUsed = new boolean[ENTRIES];
    private final int[] entryFrame = new int[ENTRIES];
    private final boolean[] entryWritable = new boolean[ENTRIES];

    // The translation buffer: copies of entries, kept under the entry's number, so that
    // the same page of two spaces is never mixed up and enter has nothing to drop.
    private final boolean[] keptUsed = new boolean[MOST_KEPT];
    private final int[] keptEntry = new int[MOST_KEPT];
    private final int[] keptFrame = new int[MOST_KEPT];
    private final boolean[] keptWritable = new boolean[MOST_KEPT];

    // The cache: a block is LINE_WORDS physical words, and the line of way y in set t is slot t * WAYS + y.
    private final boolean[] slotUsed = new boolean[MOST_SLOTS];
    private final boolean[] slotDirty = new boolean[MOST_SLOTS];
    private final int[] slotBlock = new int[MOST_SLOTS];
    private final int[] cached = new int[MOST_CACHED_WORDS];
    private final int[] nextWay = new int[MOST_LINES];

    private final int lines;
    private final int buffer;
    private int nextKept = 0;
    private int current = 0;
    private int lastLoaded = 0;

    public CachedMemory(int lines, int buffer) {
        this.lines = clamp(lines, MOST_LINES);
        this.buffer = clamp(buffer, MOST_KEPT);
    }

    public int enter(int s) {
        if (!isBelow(s, SPACES)) {
            return BAD;
        }
        current = s;
        return OK;
    }

    public int map(int s, int page, int frame, boolean writable) {
        if (!isBelow(s, SPACES) || !isBelow(page, PAGES) || !isBelow(frame, FRAMES)) {
            return BAD;
        }
        int entry = s * PAGES + page;
        boolean replaced = entryUsed[entry];
        entryUsed[entry] = true;
        entryFrame[entry] = frame;
        entryWritable[entry] = writable;
        dropTranslation(entry);
        return replaced ? REPLACED : OK;
    }

    public int unmap(int s, int page) {
        if (!isBelow(s, SPACES) || !isBelow(page, PAGES)) {
            return BAD;
        }
        int entry = s * PAGES + page;
        if (!entryUsed[entry]) {
            return NO_PAGE;
        }
        entryUsed[entry] = false;
        dropTranslation(entry);
        return OK;
    }

    public int protect(int frame) {
        if (!isBelow(frame, FRAMES)) {
            return BAD;
        }
        int wereWritable = 0;
        for (int entry = 0; entry < ENTRIES; entry++) {
            if (entryUsed[entry] && entryFrame[entry] == frame && entryWritable[entry]) {
                entryWritable[entry] = false;
                dropTranslation(entry);
                wereWritable++;
            }
        }
        return wereWritable;
    }

    public int load(int a) {
        int kept = translationOf(a, false);
        if (kept < 0) {
            return kept;
        }
        int w = physicalWord(kept, a);
        lastLoaded = readCached(w);
        return OK;
    }

    public int last() {
        return lastLoaded;
    }

    public int store(int a, int value) {
        int kept = translationOf(a, true);
        if (kept < 0) {
            return kept;
        }
        int w = physicalWord(kept, a);
        writeCached(w, value);
        return OK;
    }

    public int add(int a, int value) {
        int kept = translationOf(a, true);
        if (kept < 0) {
            return kept;
        }
        int w = physicalWord(kept, a);
        int sum = readCached(w) + value;
        writeCached(w, sum);
        return OK;
    }

    public int deviceRead(int w) {
        if (!isBelow(w, WORDS)) {
            return 0;
        }
        return readByDevice(w);
    }

    public int deviceWrite(int w, int value) {
        if (!isBelow(w, WORDS)) {
            return BAD;
        }
        writeByDevice(w, value);
        return OK;
    }

    public int deviceCopy(int from, int to, int count) {
        if (from < 0 || to < 0 || count < 0) {
            return BAD;
        }
        // As longs, for the sum of two large ints would wrap to a small one.
        if ((long) from + count > WORDS || (long) to + count > WORDS) {
            return BAD;
        }
        for (int i = 0; i < count; i++) {
            int value = readByDevice(from + i);
            writeByDevice(to + i, value);
        }
        return count;
    }

    public int translate(int a) {
        int kept = translationOf(a, false);
        if (kept < 0) {
            return kept;
        }
        return physicalWord(kept, a);
    }

    private static int clamp(int n, int most) {
        if (n < 1) {
            return 1;
        }
        return n > most ? most : n;
    }

    private static boolean isBelow(int n, int bound) {
        return n >= 0 && n < bound;
    }

    /** Where the translation of an address of the current space is kept; or BAD, NO_PAGE or, if it is to be written, READ_ONLY. */
    private int translationOf(int a, boolean toWrite) {
        if (!isBelow(a, WORDS)) {
            return BAD;
        }
        int entry = current * PAGES + a / PAGE_WORDS;
        int kept = findTranslation(entry);
        if (kept == NONE && !entryUsed[entry]) {
            return NO_PAGE;
        }
        boolean writable = kept == NONE ? entryWritable[entry] : keptWritable[kept];
        // Before anything is kept, for a refused call changes nothing, not even the buffer.
        if (toWrite && !writable) {
            return READ_ONLY;
        }
        return kept == NONE ? keepTranslation(entry) : kept;
    }

    private int physicalWord(int kept, int a) {
        return keptFrame[kept] * PAGE_WORDS + a % PAGE_WORDS;
    }

    private int findTranslation(int entry) {
        for (int kept = 0; kept < buffer; kept++) {
            if (keptUsed[kept] && keptEntry[kept] == entry) {
                return kept;
            }
        }
        return NONE;
    }

    private int keepTranslation(int entry) {
        int kept = nextKept;
        nextKept = (kept + 1) % buffer;
        keptUsed[kept] = true;
        keptEntry[kept] = entry;
        keptFrame[kept] = entryFrame[entry];
        keptWritable[kept] = entryWritable[entry];
        return kept;
    }

    // A kept translation is a copy: it must go when its entry changes.
    private void dropTranslation(int entry) {
        int kept = findTranslation(entry);
        if (kept != NONE) {
            keptUsed[kept] = false;
        }
    }

    private int readCached(int w) {
        int slot = slotWith(w / LINE_WORDS);
        return cached[slot * LINE_WORDS + w % LINE_WORDS];
    }

    private void writeCached(int w, int value) {
        int slot = slotWith(w / LINE_WORDS);
        cached[slot * LINE_WORDS + w % LINE_WORDS] = value;
        slotDirty[slot] = true;
    }

    /** The slot that holds a block, after bringing the block in if it wasn't there. */
    private int slotWith(int block) {
        int set = block % lines;
        int slot = findSlot(block);
        if (slot == NONE) {
            slot = set * WAYS + nextWay[set];
            writeBack(slot);
            fill(slot, block);
        }
        // The other way is now the one that was used longer ago.
        nextWay[set] = WAYS - 1 - slot % WAYS;
        return slot;
    }

    private int findSlot(int block) {
        int first = block % lines * WAYS;
        for (int slot = first; slot < first + WAYS; slot++) {
            if (slotUsed[slot] && slotBlock[slot] == block) {
                return slot;
            }
        }
        return NONE;
    }

    private void fill(int slot, int block) {
        for (int i = 0; i < LINE_WORDS; i++) {
            cached[slot * LINE_WORDS + i] = memory[block * LINE_WORDS + i];
        }
        slotUsed[slot] = true;
        slotDirty[slot] = false;
        slotBlock[slot] = block;
    }

    private void writeBack(int slot) {
        if (!slotUsed[slot] || !slotDirty[slot]) {
            return;
        }
        for (int i = 0; i < LINE_WORDS; i++) {
            memory[slotBlock[slot] * LINE_WORDS + i] = cached[slot * LINE_WORDS + i];
        }
        slotDirty[slot] = false;
    }

    private int readByDevice(int w) {
        int slot = findSlot(w / LINE_WORDS);
        if (slot != NONE) {
            writeBack(slot);
        }
        return memory[w];
    }

    private void writeByDevice(int w, int value) {
        int slot = findSlot(w / LINE_WORDS);
        if (slot != NONE) {
            // The line's other words may be newer than the memory's, so it isn't just dropped.
            writeBack(slot);
            slotUsed[slot] = false;
        }
        memory[w] = value;
    }
}

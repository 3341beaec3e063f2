/** The calls of README.md's example, with the answers that stand beside them there; the two are to be changed together. */
public final class ReadmeTest {
    private static int wrong = 0;

    public static void main(String[] args) {
        CachedMemory m = new CachedMemory(2, 4);
        due("map(0, 0, 3, true)", m.map(0, 0, 3, true), CachedMemory.OK);
        due("map(1, 5, 3, false)", m.map(1, 5, 3, false), CachedMemory.OK);
        due("store(1, 10)", m.store(1, 10), CachedMemory.OK);
        due("add(1, 5)", m.add(1, 5), CachedMemory.OK);
        due("load(8)", m.load(8), CachedMemory.NO_PAGE);
        due("enter(1)", m.enter(1), CachedMemory.OK);
        due("load(41)", m.load(41), CachedMemory.OK);
        due("last()", m.last(), 15);
        due("store(41, 11)", m.store(41, 11), CachedMemory.READ_ONLY);
        due("translate(41)", m.translate(41), 25);
        due("deviceRead(25)", m.deviceRead(25), 15);
        due("deviceWrite(25, 12)", m.deviceWrite(25, 12), CachedMemory.OK);
        due("load(41)", m.load(41), CachedMemory.OK);
        due("last()", m.last(), 12);
        due("deviceCopy(25, 26, 3)", m.deviceCopy(25, 26, 3), 3);
        due("deviceRead(28)", m.deviceRead(28), 12);
        due("protect(3)", m.protect(3), 1);
        due("unmap(1, 5)", m.unmap(1, 5), CachedMemory.OK);
        due("load(64)", m.load(64), CachedMemory.BAD);
        System.out.println(wrong == 0 ? "all answers are as due" : wrong + " answers are not as due");
        if (wrong != 0) {
            System.exit(1);
        }
    }

    private static void due(String call, int got, int want) {
        if (got != want) {
            wrong++;
            System.out.println(call + " answered " + got + ", due is " + want);
        }
    }
}

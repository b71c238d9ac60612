/** failing: the operations that failed in the latest run, the first 300. */
final class Promise09Test {
    private static final String INDEX = "IndexOutOfBoundsException";

    /** So many words, and at each so many operations that fail, with all 4 bits. */
    private static MarchTests failing(int words, int times) {
        MarchTests x = new MarchTests(words, 4);
        for (int left = times; left > 0; left -= 8) {
            Check.tell(x, "^(r1" + ",r1".repeat(Math.min(8, left) - 1) + ")");
        }
        x.read();
        x.run(0);
        return x;
    }

    private static void parts(Check check) {
        check.sentence("what = 0 its element, 1 its number in that, 2 the word, 3 the bits that were wrong, as a number");
        MarchTests x = Check.marching(3, 3, "d*(w0);v(w1,r1,r0)");
        x.fault(0, 4, 0);
        x.fault(0, 5, 0);
        check.due("a run", 1, () -> x.run(0));
        check.failings("in the order they failed", x, Check.rows(2, 2, 2, 7, 2, 1, 1, 6, 2, 2, 1, 1, 2, 2, 0, 7));
        MarchTests last = Check.marching(16, 4, "d".repeat(15) + "^(w0,w0,w0,w0,w0,w0,w0,r0)");
        last.fault(8, 63, 0);
        last.run(0);
        check.failings("the last element, operation, word and bit there can be", last, Check.rows(15, 7, 15, 8));
        MarchTests scrambled = Check.marching(3, 1, "^(r0)");
        scrambled.fault(8, 0, 0);
        scrambled.scramble(0, 2);
        scrambled.run(0);
        check.failings("the word, not the place", scrambled, Check.rows(0, 0, 0, 1));
    }

    private static void howMany(Check check) {
        check.sentence("4 how many are kept (for each k that there is, and for k = 0 also without any)");
        MarchTests x = Check.marching(3, 1, "^(r1)");
        check.due("before a run", 0, () -> x.failing(0, 4));
        check.index("before a run, told with 1", () -> x.failing(1, 4));
        x.run(0);
        for (int i = 0; i < 3; i++) {
            int k = i;
            check.due("told with " + k, 3, () -> x.failing(k, 4));
        }
        check.index("told with one too far", () -> x.failing(3, 4));
        check.index("told with one below 0", () -> x.failing(-1, 4));
        Check.read(x, "^(w0,r0)");
        x.run(0);
        check.due("without any", 0, () -> x.failing(0, 4));
        check.index("without any, told with 1", () -> x.failing(1, 4));
        check.index("without any, told with -1", () -> x.failing(-1, 4));
        for (int w = 0; w < 4; w++) {
            int what = w;
            check.index("without any there is none: what = " + what, () -> x.failing(0, what));
        }
    }

    private static void theFirst300(Check check) {
        check.terms("FAILING are operations that failed in the latest run, the first 300.");
        int[][] sizes = {{13, 23}, {12, 25}, {7, 43}, {16, 24}, {16, 100}};
        for (int[] size : sizes) {
            MarchTests x = failing(size[0], size[1]);
            int count = size[0] * size[1];
            int kept = Math.min(300, count);
            check.due(count + " failed", kept, () -> x.failing(0, 4));
            check.due(count + " failed: told with the last", kept, () -> x.failing(kept - 1, 4));
            check.index(count + " failed: no more", () -> x.failing(kept, 0));
            check.index(count + " failed: no more", () -> x.failing(kept, 4));
        }
        MarchTests full = failing(16, 100);
        check.due("the last one's element", 2, () -> full.failing(299, 0));
        check.due("the last one's number", 3, () -> full.failing(299, 1));
        check.due("the last one's word", 5, () -> full.failing(299, 2));
        check.due("the last one's bits", 15, () -> full.failing(299, 3));
        check.terms("FAILING are operations that failed in the latest run");
        check.due("a fault of the text", -3, () -> Check.read(full, "^()"));
        check.due("a text leaves what failed", 300, () -> full.failing(0, 4));
        check.due("another march", 1, () -> Check.read(full, "^(r0)"));
        check.due("another march leaves what failed", 300, () -> full.failing(0, 4));
        check.due("its run does not", 0, () -> full.run(0));
        check.due("its run does not", 0, () -> full.failing(0, 4));
    }

    private static void thrown(Check check) {
        check.terms("IndexOutOfBoundsException: there is no such cell, word, row or what.");
        MarchTests x = Check.marching(3, 1, "^(r1)");
        x.run(0);
        for (int k : new int[] {3, 4, 299, 300, -1, Integer.MIN_VALUE, Integer.MAX_VALUE}) {
            for (int w = 0; w < 5; w++) {
                int what = w;
                check.index("failing(" + k + ", " + what + ")", () -> x.failing(k, what));
            }
        }
        for (int what : new int[] {5, 6, -1, Integer.MIN_VALUE, Integer.MAX_VALUE}) {
            check.index("failing(0, " + what + ")", () -> x.failing(0, what));
            check.index("failing(2, " + what + ")", () -> x.failing(2, what));
            check.index("failing(3, " + what + ")", () -> x.failing(3, what));
            check.index("failing(0, " + what + ") without any", () -> new MarchTests(1, 1).failing(0, what));
        }
        check.terms("A call that throws changes nothing.");
        Twin.changesNothing(check, "failing(-1, 0)", INDEX, y -> y.failing(-1, 0));
        Twin.changesNothing(check, "failing(0, 5)", INDEX, y -> y.failing(0, 5));
        Twin.changesNothingWithoutMarch(check, "failing(0, 0)", INDEX, y -> y.failing(0, 0));
    }

    public static void main(String[] args) {
        Check check = new Check("promise 9 (failing)");
        check.hold(Promise09Test::parts);
        check.hold(Promise09Test::howMany);
        check.hold(Promise09Test::theFirst300);
        check.hold(Promise09Test::thrown);
        check.finish();
    }
}

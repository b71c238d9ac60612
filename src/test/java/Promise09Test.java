/** failing: the operations that failed in the latest run, the first 300. */
final class Promise09Test {
    private static void parts(Check check) {
        MarchTests x = Check.marching(3, 3, "d*(w0);v(w1,r1,r0)");
        x.fault(0, 4, 0);
        x.fault(0, 5, 0);
        check.due("a run", 1, () -> x.run(0));
        check.failings("in the order they failed", x,
            new int[][] {{2, 2, 2, 7}, {2, 1, 1, 6}, {2, 2, 1, 1}, {2, 2, 0, 7}});
        check.due("how many, told with the last", 4, () -> x.failing(3, 4));
        check.index("how many, told with one too far", () -> x.failing(4, 4));
        check.index("how many, told with one below 0", () -> x.failing(-1, 4));
        check.index("one too far", () -> x.failing(4, 0));
        check.index("one below 0", () -> x.failing(-1, 0));
        check.index("what 5", () -> x.failing(0, 5));
        check.index("what -1", () -> x.failing(0, -1));
        check.index("far away", () -> x.failing(Integer.MAX_VALUE, Integer.MIN_VALUE));
    }

    private static void none(Check check) {
        MarchTests x = Check.marching(1, 1, "^(w0,r0)");
        x.run(0);
        check.due("how many without any", 0, () -> x.failing(0, 4));
        check.index("how many without any, told with 1", () -> x.failing(1, 4));
        check.index("none", () -> x.failing(0, 0));
    }

    private static void many(Check check) {
        MarchTests x = new MarchTests(16, 4);
        for (int i = 0; i < 3; i++) {
            Check.tell(x, "^(r1,r1,r1,r1,r1,r1,r1,r1)");
        }
        check.due("three elements", 3, x::read);
        check.due("384 fail", 1, () -> x.run(0));
        check.due("300 are kept", 300, () -> x.failing(299, 4));
        check.due("the last one's element", 2, () -> x.failing(299, 0));
        check.due("the last one's number", 3, () -> x.failing(299, 1));
        check.due("the last one's word", 5, () -> x.failing(299, 2));
        check.due("the last one's bits", 15, () -> x.failing(299, 3));
        check.index("no more", () -> x.failing(300, 0));
        check.index("no more", () -> x.failing(300, 4));
        check.due("a fault of the text", -3, () -> Check.read(x, "^()"));
        check.due("a text leaves what failed", 300, () -> x.failing(0, 4));
        check.due("another march", 1, () -> Check.read(x, "^(r0)"));
        check.due("another march leaves what failed", 300, () -> x.failing(0, 4));
        check.due("its run does not", 0, () -> x.run(0));
        check.due("its run does not", 0, () -> x.failing(0, 4));
    }

    public static void main(String[] args) {
        Check check = new Check();
        parts(check);
        none(check);
        many(check);
        check.finish();
    }
}

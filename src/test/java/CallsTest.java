/** An object of 512 calls: the last of them is answered as the first. */
final class CallsTest {
    private static final String MARCH = "*(w0);^(r0,w1);v(r1,w0);*(r0)";

    /** The calls behind a march are the same five, again and again, and so are their answers. */
    private static void all512(Check check) {
        check.sentence("An object is used for at most 512 calls after it has been made");
        MarchTests x = new MarchTests(16, 4);
        check.due("a march", 4, () -> Check.read(x, MARCH));
        check.due("a fault", 1, () -> x.fault(0, 63, 0));
        int calls = MARCH.length() + 2;
        while (calls + 5 <= 511) {
            check.due("run(0), call " + (calls + 1), 1, () -> x.run(0));
            check.due("failing(0, 2), call " + (calls + 2), 15, () -> x.failing(0, 2));
            check.due("repair(1, 1, 9), call " + (calls + 3), 1, () -> x.repair(1, 1, 9));
            check.due("fuse(19), call " + (calls + 4), 1, () -> x.fuse(19));
            check.index("scramble(0, 16), call " + (calls + 5), () -> x.scramble(0, 16));
            calls += 5;
        }
        while (calls < 511) {
            check.due("covered(0, 0), call " + (calls + 1), 64L, () -> x.covered(0, 0));
            calls++;
        }
        check.due("covered(10, 1), call 512", 4032L, () -> x.covered(10, 1));
    }

    /** As many bytes as go on a tape, and then all that is left of 512 calls. */
    private static void fullTape(Check check) {
        check.sentence("An object is used for at most 512 calls after it has been made");
        MarchTests x = new MarchTests(1, 1);
        for (int i = 0; i < 400; i++) {
            check.due("unit, call " + (i + 1), true, () -> x.unit(' '));
        }
        for (int i = 400; i < 511; i++) {
            check.due("unit, call " + (i + 1), false, () -> x.unit(' '));
        }
        check.due("read, call 512", -401, x::read);
    }

    public static void main(String[] args) {
        Check check = new Check("what it is");
        check.hold(CallsTest::all512);
        check.hold(CallsTest::fullTape);
        check.finish();
    }
}

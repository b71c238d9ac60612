/** unit: one byte more on the tape, the lowest eight bits, with room for 400. */
final class Promise02Test {
    private static void lowestEightBits(Check check) {
        check.sentence("One byte more on the tape (the lowest eight bits)");
        int[] far = {0, 256, -256, 512, Integer.MIN_VALUE, Integer.MAX_VALUE - 255, 0x5a5a5a00, -65536};
        for (int more : far) {
            MarchTests x = new MarchTests(1, 1);
            check.due("unit('d' and " + more + ")", true, () -> x.unit('d' + more));
            check.due("a pause", 1, x::read);
        }
        // All eight bits count: what is like d in seven of them is no d.
        for (int unit : new int[] {-1, 255, 128, -128, 0, 'd' + 128, 'd' - 128, Integer.MAX_VALUE, Integer.MIN_VALUE}) {
            MarchTests x = new MarchTests(1, 1);
            x.unit('d');
            check.due("unit(" + unit + ")", true, () -> x.unit(unit));
            check.due("no byte of a text", -2, x::read);
        }
    }

    private static void roomFor400(Check check) {
        check.sentence("whether there was room (for 400)");
        MarchTests x = new MarchTests(1, 1);
        for (int i = 0; i < 399; i++) {
            check.due("unit " + i, true, () -> x.unit(' '));
        }
        check.due("the 400th", true, () -> x.unit('d'));
        check.due("the 401st", false, () -> x.unit('x'));
        check.due("the 402nd", false, () -> x.unit('d'));
        check.due("what had no room is not there", 1, x::read);
        check.due("room again", true, () -> x.unit('d'));
        check.due("a pause", 1, x::read);
    }

    private static void roomBehindAFault(Check check) {
        check.sentence("whether there was room (for 400)");
        MarchTests x = new MarchTests(1, 1);
        Check.tell(x, " ".repeat(400));
        check.due("full", false, () -> x.unit('d'));
        check.due("400 blanks end at 400", -401, x::read);
        check.due("room again", true, () -> x.unit('d'));
        check.due("a pause", 1, x::read);
    }

    public static void main(String[] args) {
        Check check = new Check("promise 2 (unit)");
        check.hold(Promise02Test::lowestEightBits);
        check.hold(Promise02Test::roomFor400);
        check.hold(Promise02Test::roomBehindAFault);
        check.finish();
    }
}

/** unit: one byte more on the tape, the lowest eight bits, with room for 400. */
final class Promise02Test {
    public static void main(String[] args) {
        Check check = new Check();
        MarchTests x = new MarchTests(1, 1);
        check.due("256 and more fall away", true, () -> x.unit('d' + 256));
        check.due("below 0 too", true, () -> x.unit('d' - 256));
        check.due("and far away", true, () -> x.unit(Integer.MIN_VALUE + 'd'));
        check.due("three pauses", 3, x::read);
        for (int i = 0; i < 400; i++) {
            check.due("unit " + i, true, () -> x.unit(' '));
        }
        check.due("the 401st", false, () -> x.unit('d'));
        check.due("the 402nd", false, () -> x.unit('d'));
        check.due("400 blanks end at 400", -401, x::read);
        check.due("room again", true, () -> x.unit('d'));
        check.due("a pause", 1, x::read);
        for (int i = 0; i < 399; i++) {
            x.unit(13);
        }
        check.due("the 400th", true, () -> x.unit('d'));
        check.due("a pause at the end", 1, x::read);
        check.finish();
    }
}

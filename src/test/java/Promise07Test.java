/** machine: one row for each operation and each pause. */
final class Promise07Test {
    private static void rows(Check check, String text, int... want) {
        MarchTests x = Check.marching(3, 2, text);
        for (int i = 0; i < want.length; i++) {
            int row = i;
            check.due(text + ": machine(" + i + ")", want[i], () -> x.machine(row));
        }
        check.index(text + ": a row too far", () -> x.machine(want.length));
        check.index(text + ": a row below 0", () -> x.machine(-1));
        check.index(text + ": a row far away", () -> x.machine(Integer.MAX_VALUE));
    }

    public static void main(String[] args) {
        Check check = new Check();
        rows(check, "^(w0)", 8);
        rows(check, "*(w1)", 12);
        rows(check, "v(w0)", 9);
        rows(check, "v(r1)", 15);
        rows(check, "d", 24);
        rows(check, "v(r0,w1)d^(r1,w0,r0)*(r0);d", 3, 13, 24, 6, 0, 10, 10, 24);
        rows(check, "v(w0,w1,r0,r1,w0,w1,r0,r1)", 1, 5, 3, 7, 1, 5, 3, 15);
        MarchTests x = new MarchTests(3, 2);
        check.state("no march before no row", () -> x.machine(-1));
        for (int i = 0; i < 8; i++) {
            Check.tell(x, "v(r0,r0,r0,r0,r0,r0,r0,r0)");
        }
        check.due("long elements", 8, x::read);
        check.due("the first of them", 3, () -> x.machine(0));
        check.due("the last of them", 11, () -> x.machine(63));
        check.index("behind it", () -> x.machine(64));
        check.due("a shorter march", 1, () -> Check.read(x, "d"));
        check.index("is shorter", () -> x.machine(1));
        check.finish();
    }
}

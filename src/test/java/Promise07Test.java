/** machine: one row for each operation and each pause. */
final class Promise07Test {
    private static final String EIGHT = "r0,w1,r1,w0,r0,w1,r1,w0";

    private static void rows(Check check, String text, int... want) {
        MarchTests x = Check.marching(3, 2, text);
        for (int i = 0; i < want.length; i++) {
            int row = i;
            check.due(text + ": machine(" + i + ")", want[i], () -> x.machine(row));
        }
        check.index(text + ": a row too far", () -> x.machine(want.length));
    }

    private static void oneForEach(Check check) {
        check.sentence("Row i of the machine: one for each operation, in turn, and each pause");
        rows(check, "^(w0)", 8);
        rows(check, "v(r0,w1)d^(r1,w0,r0)*(r0);d", 3, 13, 24, 6, 0, 10, 10, 24);
        rows(check, "v(w0,w1,r0,r1,w0,w1,r0,r1)", 1, 5, 3, 7, 1, 5, 3, 15);
        rows(check, "d".repeat(16), 24, 24, 24, 24, 24, 24, 24, 24, 24, 24, 24, 24, 24, 24, 24, 24);
    }

    private static void numbers(Check check) {
        check.sentence("1 the element goes down");
        rows(check, "v(w0,w0)^(w0,w0)*(w0,w0)", 1, 9, 0, 8, 0, 8);
        check.sentence("2 it is read");
        rows(check, "^(r0,w0,r0)", 2, 0, 10);
        check.sentence("4 the value 1");
        rows(check, "^(w1,w0,w1)", 4, 0, 12);
        check.sentence("8 it is the element's last");
        rows(check, "^(w0)^(w0,w0)^(w0,w0,w0)", 8, 0, 8, 0, 0, 8);
        check.sentence("16 a pause (with 8)");
        rows(check, "d", 24);
        rows(check, "v(w0)d;v(w0)", 9, 24, 9);
        check.sentence("all added up");
        rows(check, "v(r1)", 15);
        rows(check, "v(r1,r1)", 7, 15);
    }

    private static void longest(Check check) {
        check.sentence("one for each operation, in turn");
        MarchTests x = new MarchTests(3, 2);
        for (int i = 0; i < 15; i++) {
            Check.tell(x, "v(" + EIGHT + ")");
        }
        Check.tell(x, "^(r1,w1) ");
        check.due("the last byte there is room for", true, () -> x.unit(' '));
        check.due("16 elements", 16, x::read);
        check.due("the first row", 3, () -> x.machine(0));
        check.due("the last of 8 in the 15th element", 9, () -> x.machine(119));
        check.due("the first of the 16th", 6, () -> x.machine(120));
        check.due("the last row there can be", 12, () -> x.machine(121));
        check.index("behind it", () -> x.machine(122));
        check.due("a shorter march", 1, () -> Check.read(x, "d"));
        check.due("its row", 24, () -> x.machine(0));
        check.index("it is shorter", () -> x.machine(1));
    }

    private static void thrown(Check check) {
        check.terms("IndexOutOfBoundsException: there is no such cell, word, row or what.");
        MarchTests x = Check.marching(3, 2, "^(w0,r0)");
        for (int i : new int[] {2, 3, 127, 128, -1, Integer.MIN_VALUE, Integer.MAX_VALUE}) {
            check.index("machine(" + i + ")", () -> x.machine(i));
        }
        check.terms("the one named first when several would do");
        check.state("no march before no row", () -> new MarchTests(3, 2).machine(-1));
        check.state("no march before no row", () -> new MarchTests(3, 2).machine(999));
        check.terms("IllegalStateException: no march was read");
        check.state("machine(0)", () -> new MarchTests(3, 2).machine(0));
        check.terms("A call that throws changes nothing.");
        Twin.changesNothing(check, "machine(4)", "IndexOutOfBoundsException", y -> y.machine(4));
        Twin.changesNothing(check, "machine(-1)", "IndexOutOfBoundsException", y -> y.machine(-1));
        Twin.changesNothingWithoutMarch(check, "machine(0)", "IllegalStateException", y -> y.machine(0));
    }

    public static void main(String[] args) {
        Check check = new Check("promise 7 (machine)");
        check.hold(Promise07Test::oneForEach);
        check.hold(Promise07Test::numbers);
        check.hold(Promise07Test::longest);
        check.hold(Promise07Test::thrown);
        check.finish();
    }
}

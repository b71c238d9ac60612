/** fault: one more, or all gone; and what it throws, first things first. */
final class Promise04Test {
    private static void thrown(Check check) {
        MarchTests x = new MarchTests(4, 2);
        check.index("a cell below 0", () -> x.fault(0, -1, 0));
        check.index("a cell too far", () -> x.fault(0, 8, 0));
        check.index("a cell too far before the kind", () -> x.fault(14, 8, 0));
        check.index("a cell far away", () -> x.fault(-2, Integer.MIN_VALUE, 0));
        for (int kind = 10; kind <= 13; kind++) {
            int paired = kind;
            check.index("another cell too far, kind " + kind, () -> x.fault(paired, 0, 8));
            check.index("another cell below 0, kind " + kind, () -> x.fault(paired, 0, -1));
            check.argument("both the same, kind " + kind, () -> x.fault(paired, 3, 3));
        }
        check.argument("kind 14", () -> x.fault(14, 0, 0));
        check.argument("kind 14 has no other cell", () -> x.fault(14, 0, 99));
        check.argument("kind -2", () -> x.fault(-2, 0, 0));
        check.argument("a kind far away", () -> x.fault(Integer.MAX_VALUE, 0, 0));
        check.due("none of these counts", 1, () -> x.fault(9, 0, 99));
    }

    private static void four(Check check) {
        MarchTests x = new MarchTests(4, 2);
        check.due("the first, the other one does not matter", 1, () -> x.fault(0, 7, 8));
        check.due("the second, the same again", 2, () -> x.fault(0, 7, -5));
        check.due("the third", 3, () -> x.fault(13, 0, 7));
        check.due("the fourth", 4, () -> x.fault(5, 1, 1));
        check.state("the fifth", () -> x.fault(0, 0, 0));
        check.state("the fifth before the kind", () -> x.fault(14, 0, 0));
        check.state("the fifth before the same cells", () -> x.fault(12, 1, 1));
        check.index("a cell before the fifth", () -> x.fault(0, 8, 0));
        check.index("another cell before the fifth", () -> x.fault(11, 0, 8));
        check.due("all gone, whatever the cells", 0, () -> x.fault(MarchTests.NONE, -7, 99));
        check.due("all gone again", 0, () -> x.fault(MarchTests.NONE, 0, 0));
        check.due("the first again", 1, () -> x.fault(1, 0, 0));
    }

    private static void gone(Check check) {
        MarchTests x = Check.marching(2, 1, "^(w0,r0)");
        x.fault(1, 1, 0);
        check.due("a fault is found", 1, () -> x.run(0));
        x.fault(MarchTests.NONE, 0, 0);
        check.due("what failed stays", 1, () -> x.failing(0, 4));
        check.due("all gone", 0, () -> x.run(0));
        check.due("nothing failed now", 0, () -> x.failing(0, 4));
        check.index("a fault that throws", () -> x.fault(1, 2, 0));
        check.argument("a fault that throws", () -> x.fault(10, 1, 1));
        check.due("changes nothing", 0, () -> x.run(0));
    }

    public static void main(String[] args) {
        Check check = new Check();
        thrown(check);
        four(check);
        gone(check);
        check.finish();
    }
}

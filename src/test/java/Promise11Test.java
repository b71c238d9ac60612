/** spare: the spares of the latest repair, rows first, by numbers. */
final class Promise11Test {
    private static final String INDEX = "IndexOutOfBoundsException";

    private static MarchTests spoiled() {
        return Spoiled.memory(8, 4, 53, 52, 21, 1);
    }

    private static void rowsFirst(Check check) {
        check.sentence("Spare k of the latest repair(), rows first, by numbers");
        MarchTests x = spoiled();
        check.due("repair", 2, () -> x.repair(1, 1, 9));
        check.due("a row, then a column", "r5c1", () -> Spoiled.spares(x, 2));
        check.due("repair by rows", 3, () -> x.repair(3, 0, 9));
        check.due("rows by numbers", "r0r2r5", () -> Spoiled.spares(x, 3));
        check.due("repair by columns", 3, () -> x.repair(0, 4, 9));
        check.due("columns by numbers", "c1c2c3", () -> Spoiled.spares(x, 3));
        MarchTests most = Spoiled.wholly(8, 4);
        check.due("as many rows as there can be", 8, () -> most.repair(8, 0, 9));
        check.due("all rows", "r0r1r2r3r4r5r6r7", () -> Spoiled.spares(most, 8));
        check.index("no more", () -> most.spare(8, 0));
    }

    private static void what(Check check) {
        check.sentence("what = 0 whether it is a row (0) or a column (1), 1 its number");
        MarchTests x = spoiled();
        x.repair(1, 1, 9);
        check.due("a row", 0, () -> x.spare(0, 0));
        check.due("its number", 5, () -> x.spare(0, 1));
        check.due("a column", 1, () -> x.spare(1, 0));
        check.due("its number", 1, () -> x.spare(1, 1));
        MarchTests edges = Spoiled.memory(16, 4, 150, 151, 3, 13);
        edges.repair(1, 1, 9);
        check.due("the last row and the last column", "r15c3", () -> Spoiled.spares(edges, 2));
        MarchTests least = Spoiled.memory(1, 1, 0);
        least.repair(1, 0, 1);
        check.due("the only row", "r0", () -> Spoiled.spares(least, 1));
        least.repair(0, 1, 1);
        check.due("the only column", "c0", () -> Spoiled.spares(least, 1));
    }

    private static void noneUsed(Check check) {
        check.sentence("IndexOutOfBoundsException (none are used when it answered less than 0)");
        MarchTests x = spoiled();
        x.repair(1, 1, 9);
        check.due("none will do", -1, () -> x.repair(0, 0, 9));
        check.index("-1", () -> x.spare(0, 0));
        check.index("-1", () -> x.spare(0, 1));
        check.due("repair", 2, () -> x.repair(1, 1, 9));
        check.due("too few steps", -2, () -> x.repair(1, 1, 2));
        check.index("-2", () -> x.spare(0, 0));
        check.index("-2", () -> x.spare(0, 1));
        check.sentence("Spare k of the latest repair()");
        check.index("before the first", () -> spoiled().spare(0, 0));
        check.due("repair", 2, () -> x.repair(1, 1, 9));
        x.fault(MarchTests.NONE, 0, 0);
        x.run(0);
        check.due("a run leaves it", "r5c1", () -> Spoiled.spares(x, 2));
        check.due("nothing failed", 0, () -> x.repair(8, 8, 9));
        check.index("0 spares", () -> x.spare(0, 0));
    }

    private static void thrown(Check check) {
        check.terms("IndexOutOfBoundsException: there is no such cell, word, row or what.");
        MarchTests x = spoiled();
        x.repair(1, 1, 9);
        for (int k : new int[] {2, 3, 16, -1, Integer.MIN_VALUE, Integer.MAX_VALUE}) {
            check.index("spare(" + k + ", 0)", () -> x.spare(k, 0));
            check.index("spare(" + k + ", 1)", () -> x.spare(k, 1));
        }
        for (int what : new int[] {2, 3, -1, Integer.MIN_VALUE, Integer.MAX_VALUE}) {
            check.index("spare(0, " + what + ")", () -> x.spare(0, what));
            check.index("spare(1, " + what + ")", () -> x.spare(1, what));
            check.index("spare(2, " + what + ")", () -> x.spare(2, what));
        }
        check.terms("A call that throws changes nothing.");
        Twin.changesNothing(check, "spare(-1, 0)", INDEX, y -> y.spare(-1, 0));
        Twin.changesNothing(check, "spare(99, 0)", INDEX, y -> y.spare(99, 0));
        Twin.changesNothing(check, "spare(0, 2)", INDEX, y -> y.spare(0, 2));
    }

    public static void main(String[] args) {
        Check check = new Check("promise 11 (spare)");
        check.hold(Promise11Test::rowsFirst);
        check.hold(Promise11Test::what);
        check.hold(Promise11Test::noneUsed);
        check.hold(Promise11Test::thrown);
        check.finish();
    }
}

/** spare: the spares of the latest repair, rows first, by numbers. */
final class Promise11Test {
    public static void main(String[] args) {
        Check check = new Check();
        MarchTests x = Spoiled.memory(8, 4, 53, 52, 21, 1);
        check.index("before the first repair", () -> x.spare(0, 0));
        check.due("repair", 2, () -> x.repair(1, 1, 9));
        check.due("a row first", 0, () -> x.spare(0, 0));
        check.due("its number", 5, () -> x.spare(0, 1));
        check.due("then a column", 1, () -> x.spare(1, 0));
        check.due("its number", 1, () -> x.spare(1, 1));
        check.index("one too far", () -> x.spare(2, 0));
        check.index("one too far", () -> x.spare(2, 1));
        check.index("one below 0", () -> x.spare(-1, 0));
        check.index("what 2", () -> x.spare(0, 2));
        check.index("what -1", () -> x.spare(0, -1));
        check.index("far away", () -> x.spare(Integer.MIN_VALUE, Integer.MAX_VALUE));
        check.due("repair by rows", 3, () -> x.repair(3, 0, 9));
        check.due("by numbers", "r0r2r5", () -> Spoiled.spares(x, 3));
        check.due("repair by columns", 3, () -> x.repair(0, 4, 9));
        check.due("by numbers", "c1c2c3", () -> Spoiled.spares(x, 3));
        check.due("none will do", -1, () -> x.repair(0, 0, 9));
        check.index("none used", () -> x.spare(0, 0));
        check.due("repair", 2, () -> x.repair(1, 1, 9));
        check.due("too few steps", -2, () -> x.repair(1, 1, 2));
        check.index("none used", () -> x.spare(0, 1));
        check.due("repair", 2, () -> x.repair(1, 1, 9));
        x.fault(MarchTests.NONE, 0, 0);
        x.run(0);
        check.due("a run leaves it", 5, () -> x.spare(0, 1));
        check.due("nothing failed", 0, () -> x.repair(8, 8, 9));
        check.index("none used", () -> x.spare(0, 0));
        check.finish();
    }
}

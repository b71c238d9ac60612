/** proved: whether the latest repair told the least number, or that there is none. */
final class Promise12Test {
    public static void main(String[] args) {
        Check check = new Check();
        MarchTests x = Spoiled.memory(4, 2, 0, 11);
        check.due("before the first repair", false, x::proved);
        check.due("repair", 2, () -> x.repair(8, 8, 2));
        check.due("the least number", true, x::proved);
        check.due("too few steps", -2, () -> x.repair(8, 8, 1));
        check.due("too few steps", false, x::proved);
        check.due("none will do", -1, () -> x.repair(1, 0, 2));
        check.due("that there is none", true, x::proved);
        check.argument("what throws", () -> x.repair(9, 0, 2));
        check.due("changes nothing", true, x::proved);
        x.repair(0, 0, 0);
        check.argument("what throws", () -> x.repair(0, 0, -1));
        check.due("changes nothing", false, x::proved);
        x.fault(MarchTests.NONE, 0, 0);
        x.run(0);
        check.due("nor does a run", false, x::proved);
        check.due("nothing failed", 0, () -> x.repair(0, 0, 0));
        check.due("nothing failed", true, x::proved);
        MarchTests y = new MarchTests(1, 1);
        check.due("no run", 0, () -> y.repair(0, 0, 0));
        check.due("no run", true, y::proved);
        check.finish();
    }
}

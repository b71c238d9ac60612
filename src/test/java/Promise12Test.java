/** proved: whether the latest repair told the least number, or that there is none. */
final class Promise12Test {
    private static MarchTests spoiled() {
        return Spoiled.memory(4, 2, 0, 11);
    }

    private static void leastNumber(Check check) {
        check.sentence("Whether the latest repair() told the least number");
        MarchTests x = spoiled();
        check.due("repair", 2, () -> x.repair(8, 8, 2));
        check.due("proved", true, x::proved);
        MarchTests sound = Spoiled.memory(4, 2);
        check.due("nothing failed", 0, () -> sound.repair(0, 0, 0));
        check.due("0 is the least number", true, sound::proved);
        MarchTests fresh = new MarchTests(1, 1);
        check.due("no run", 0, () -> fresh.repair(0, 0, 0));
        check.due("0 is the least number", true, fresh::proved);
    }

    private static void thereIsNone(Check check) {
        check.sentence("or that there is none");
        MarchTests x = spoiled();
        check.due("none will do", -1, () -> x.repair(1, 0, 2));
        check.due("proved", true, x::proved);
    }

    private static void notMinus2(Check check) {
        check.sentence("(not -2;");
        MarchTests x = spoiled();
        x.repair(8, 8, 2);
        check.due("too few steps", -2, () -> x.repair(8, 8, 1));
        check.due("not proved", false, x::proved);
        check.due("too few steps, and none would do", -2, () -> x.repair(0, 0, 1));
        check.due("not proved", false, x::proved);
        check.due("steps enough", 2, () -> x.repair(8, 8, 2));
        check.due("proved again", true, x::proved);
    }

    private static void beforeTheFirst(Check check) {
        check.sentence("false before the first one)");
        check.due("a new object", false, () -> new MarchTests(4, 2).proved());
        check.due("behind a run", false, () -> spoiled().proved());
        MarchTests x = spoiled();
        check.argument("a repair that throws", () -> x.repair(9, 0, 0));
        check.due("is none", false, x::proved);
    }

    private static void stays(Check check) {
        check.terms("A call that throws changes nothing.");
        MarchTests x = spoiled();
        x.repair(8, 8, 2);
        check.argument("rows behind a proved one", () -> x.repair(9, 0, 2));
        check.due("proved still", true, x::proved);
        check.argument("steps behind a proved one", () -> x.repair(0, 0, -1));
        check.due("proved still", true, x::proved);
        x.repair(0, 0, 0);
        check.argument("columns behind a -2", () -> x.repair(0, 9, 2));
        check.due("not proved still", false, x::proved);
        check.argument("steps behind a -2", () -> x.repair(0, 0, -1));
        check.due("not proved still", false, x::proved);
    }

    public static void main(String[] args) {
        Check check = new Check("promise 12 (proved)");
        check.hold(Promise12Test::leastNumber);
        check.hold(Promise12Test::thereIsNone);
        check.hold(Promise12Test::notMinus2);
        check.hold(Promise12Test::beforeTheFirst);
        check.hold(Promise12Test::stays);
        check.finish();
    }
}

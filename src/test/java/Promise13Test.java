/** fuse: words first, then bits. */
final class Promise13Test {
    private static final String INDEX = "IndexOutOfBoundsException";

    private static void fuses(Check check, String name, MarchTests x, String want) {
        StringBuilder got = new StringBuilder();
        for (int i = 0; i < want.length(); i++) {
            got.append(x.fuse(i));
        }
        check.due(name, want, () -> got);
        check.index(name + ": one too far", () -> x.fuse(want.length()));
    }

    private static void wordsFirst(Check check) {
        check.sentence("Fuse i: words first, then bits");
        MarchTests x = Spoiled.memory(6, 4, 53, 52, 21, 1);
        x.repair(1, 1, 9);
        fuses(check, "a row and a column", x, "0000010100");
        x.repair(3, 0, 9);
        fuses(check, "rows", x, "1010010000");
        x.repair(0, 3, 9);
        fuses(check, "columns", x, "0000000111");
        MarchTests y = Spoiled.wholly(16, 4);
        y.repair(0, 4, 16);
        fuses(check, "all bits", y, "00000000000000001111");
        MarchTests z = Spoiled.memory(16, 4, 150, 151);
        z.repair(1, 0, 16);
        fuses(check, "the last word", z, "00000000000000010000");
        z.repair(0, 2, 16);
        fuses(check, "the first bits", z, "00000000000000001100");
        MarchTests one = Spoiled.memory(1, 1, 0);
        one.repair(1, 0, 1);
        fuses(check, "the only word", one, "10");
        one.repair(0, 1, 1);
        fuses(check, "the only bit", one, "01");
    }

    private static void latest(Check check) {
        check.sentence("1 if the latest repair() uses a spare for it");
        MarchTests x = Spoiled.memory(6, 4, 53, 52, 21, 1);
        fuses(check, "before the first", x, "0000000000");
        x.repair(1, 1, 9);
        x.repair(0, 0, 9);
        fuses(check, "none will do", x, "0000000000");
        x.repair(1, 1, 9);
        x.run(0);
        fuses(check, "a run leaves them", x, "0000010100");
        x.repair(1, 1, 0);
        fuses(check, "too few steps", x, "0000000000");
        x.repair(1, 1, 9);
        x.fault(MarchTests.NONE, 0, 0);
        x.run(0);
        x.repair(1, 1, 9);
        fuses(check, "nothing failed", x, "0000000000");
    }

    private static void thrown(Check check) {
        check.terms("IndexOutOfBoundsException: there is no such cell, word, row or what.");
        for (int[] size : new int[][] {{1, 1}, {1, 4}, {16, 1}, {16, 4}}) {
            MarchTests x = new MarchTests(size[0], size[1]);
            int fuses = size[0] + size[1];
            check.due("the first of " + fuses, 0, () -> x.fuse(0));
            check.due("the last of " + fuses, 0, () -> x.fuse(fuses - 1));
            for (int i : new int[] {fuses, fuses + 1, 32, -1, Integer.MIN_VALUE, Integer.MAX_VALUE}) {
                check.index("of " + fuses + ": fuse(" + i + ")", () -> x.fuse(i));
            }
        }
        check.terms("A call that throws changes nothing.");
        Twin.changesNothing(check, "fuse(6)", INDEX, y -> y.fuse(6));
        Twin.changesNothing(check, "fuse(-1)", INDEX, y -> y.fuse(-1));
    }

    public static void main(String[] args) {
        Check check = new Check("promise 13 (fuse)");
        check.hold(Promise13Test::wordsFirst);
        check.hold(Promise13Test::latest);
        check.hold(Promise13Test::thrown);
        check.finish();
    }
}

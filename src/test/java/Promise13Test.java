/** fuse: words first, then bits. */
final class Promise13Test {
    private static void fuses(Check check, String name, MarchTests x, String want) {
        StringBuilder got = new StringBuilder();
        for (int i = 0; i < want.length(); i++) {
            got.append(x.fuse(i));
        }
        check.due(name, want, () -> got);
        check.index(name + ": one too far", () -> x.fuse(want.length()));
        check.index(name + ": one below 0", () -> x.fuse(-1));
        check.index(name + ": far away", () -> x.fuse(Integer.MAX_VALUE));
    }

    public static void main(String[] args) {
        Check check = new Check();
        MarchTests x = Spoiled.memory(6, 4, 53, 52, 21, 1);
        fuses(check, "before the first repair", x, "0000000000");
        x.repair(1, 1, 9);
        fuses(check, "a row and a column", x, "0000010100");
        x.repair(3, 0, 9);
        fuses(check, "rows", x, "1010010000");
        x.repair(0, 3, 9);
        fuses(check, "columns", x, "0000000111");
        x.repair(0, 0, 9);
        fuses(check, "none will do", x, "0000000000");
        x.repair(1, 1, 9);
        x.run(0);
        fuses(check, "a run leaves them", x, "0000010100");
        x.repair(1, 1, 0);
        fuses(check, "too few steps", x, "0000000000");
        MarchTests y = Spoiled.wholly(16, 4);
        y.repair(0, 4, 16);
        fuses(check, "all bits", y, "00000000000000001111");
        MarchTests z = Spoiled.memory(16, 4, 150, 151);
        z.repair(1, 0, 16);
        fuses(check, "the last word", z, "00000000000000010000");
        fuses(check, "the least memory", new MarchTests(1, 1), "00");
        check.finish();
    }
}

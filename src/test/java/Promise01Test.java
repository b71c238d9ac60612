/** A new object: words and bits are the nearest there can be; no faults, no march, ground 0, one port. */
final class Promise01Test {
    /** The number of cells, and of fuses, tells words and bits. */
    private static void size(Check check, int words, int bits, int dueWords, int dueBits) {
        String name = "new MarchTests(" + words + ", " + bits + ")";
        MarchTests x = Check.marching(words, bits, "^(w0,r0)");
        int cells = dueWords * dueBits;
        check.due(name + ": cells", cells, () -> x.covered(0, 1));
        check.due(name + ": the last word", true, () -> x.scramble(dueWords - 1, 0) == (dueWords > 1));
        check.index(name + ": a word too far", () -> x.scramble(0, dueWords));
        check.due(name + ": the last cell", 1, () -> x.fault(0, cells - 1, 0));
        check.index(name + ": a cell too far", () -> x.fault(0, cells, 0));
        check.due(name + ": the last fuse", 0, () -> x.fuse(dueWords + dueBits - 1));
        check.index(name + ": a fuse too far", () -> x.fuse(dueWords + dueBits));
    }

    public static void main(String[] args) {
        Check check = new Check();
        size(check, 4, 2, 4, 2);
        size(check, 1, 1, 1, 1);
        size(check, 16, 4, 16, 4);
        size(check, 0, 0, 1, 1);
        size(check, 17, 5, 16, 4);
        size(check, Integer.MIN_VALUE, Integer.MAX_VALUE, 1, 4);
        size(check, Integer.MAX_VALUE, Integer.MIN_VALUE, 16, 1);
        MarchTests x = new MarchTests(2, 2);
        check.due("the tape is empty", -1, x::read);
        check.state("no march: run(0)", () -> x.run(0));
        check.state("no march: machine(0)", () -> x.machine(0));
        check.state("no march: covered(0, 0)", () -> x.covered(0, 0));
        check.due("nothing failed", 0, () -> x.failing(0, 4));
        check.index("nothing failed", () -> x.failing(0, 0));
        check.due("nothing proved", false, x::proved);
        check.index("no spare", () -> x.spare(0, 0));
        check.due("no fuse", 0, () -> x.fuse(0));
        check.due("ground 0", false, () -> x.ground(0));
        check.due("one port", 1, () -> x.port(1));
        check.due("no faults", 1, () -> x.fault(0, 0, 0));
        check.finish();
    }
}

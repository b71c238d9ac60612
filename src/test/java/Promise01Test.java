/** A new object: words and bits are the nearest there can be; no faults, no march, ground 0, one port. */
final class Promise01Test {
    /** The number of cells, of words and of fuses tells words and bits. */
    private static void size(Check check, int words, int bits, int dueWords, int dueBits) {
        String name = "new MarchTests(" + words + ", " + bits + ")";
        MarchTests x = Check.marching(words, bits, "^(w0,r0)");
        int cells = dueWords * dueBits;
        check.due(name + ": cells", cells, () -> x.covered(0, 1));
        check.due(name + ": the last word", true, () -> x.scramble(dueWords - 1, 0) == (dueWords > 1));
        check.index(name + ": a word too far", () -> x.scramble(0, dueWords));
        check.due(name + ": the last cell", 1, () -> x.fault(0, cells - 1, 0));
        check.index(name + ": a cell too far", () -> x.fault(0, cells, 0));
        check.due(name + ": the last fuse", 0, () -> x.fuse(dueWords + dueBits - 1));
        check.index(name + ": a fuse too far", () -> x.fuse(dueWords + dueBits));
    }

    private static void asManyAsThereCanBe(Check check) {
        check.terms("16) of BITS (1 .. 4)");
        for (int words = 1; words <= 16; words++) {
            for (int bits = 1; bits <= 4; bits++) {
                size(check, words, bits, words, bits);
            }
        }
    }

    private static void tooSmall(Check check) {
        check.sentence("Words and bits (the nearest there can be)");
        size(check, 0, 2, 1, 2);
        size(check, -1, 2, 1, 2);
        size(check, Integer.MIN_VALUE, 2, 1, 2);
        size(check, 2, 0, 2, 1);
        size(check, 2, -1, 2, 1);
        size(check, 2, Integer.MIN_VALUE, 2, 1);
        size(check, 0, 0, 1, 1);
    }

    private static void tooLarge(Check check) {
        check.sentence("Words and bits (the nearest there can be)");
        size(check, 17, 2, 16, 2);
        size(check, Integer.MAX_VALUE, 2, 16, 2);
        size(check, 2, 5, 2, 4);
        size(check, 2, Integer.MAX_VALUE, 2, 4);
        size(check, 17, 5, 16, 4);
        size(check, Integer.MIN_VALUE, Integer.MAX_VALUE, 1, 4);
        size(check, Integer.MAX_VALUE, Integer.MIN_VALUE, 16, 1);
    }

    private static void noFaults(Check check) {
        check.sentence("no faults");
        MarchTests x = Check.marching(2, 2, "^(r0,w1,r1,w0,r0)d*(r0)");
        check.due("a sound memory", 0, () -> x.run(0));
        check.due("the first fault", 1, () -> x.fault(0, 0, 0));
    }

    private static void noMarch(Check check) {
        check.sentence("no march");
        MarchTests x = new MarchTests(2, 2);
        check.state("run(0)", () -> x.run(0));
        check.state("machine(0)", () -> x.machine(0));
        check.state("covered(0, 0)", () -> x.covered(0, 0));
        check.state("covered(0, 1)", () -> x.covered(0, 1));
        check.due("the tape is empty", -1, x::read);
        check.state("run(0) still", () -> x.run(0));
    }

    private static void groundAndPort(Check check) {
        check.sentence("ground 0");
        check.due("ground(0) is no other one", false, () -> new MarchTests(2, 2).ground(0));
        check.due("ground(1) is", true, () -> new MarchTests(2, 2).ground(1));
        MarchTests x = Check.marching(2, 2, "^(r0)");
        check.due("0 is 0 everywhere", 0, () -> x.run(0));
        check.sentence("one port");
        check.due("there was one", 1, () -> new MarchTests(2, 2).port(1));
        MarchTests y = Check.marching(2, 1, "^(r0)");
        y.fault(7, 1, 0);
        check.due("nothing is read twice", 0, () -> y.run(0));
    }

    private static void nothingYet(Check check) {
        check.terms("FAILING are operations that failed in the latest run");
        MarchTests x = new MarchTests(2, 2);
        check.due("before the first run", 0, () -> x.failing(0, 4));
        check.index("before the first run", () -> x.failing(0, 0));
        check.due("nothing is repaired", 0, () -> x.repair(0, 0, 0));
    }

    public static void main(String[] args) {
        Check check = new Check("promise 1 (a new object)");
        check.hold(Promise01Test::asManyAsThereCanBe);
        check.hold(Promise01Test::tooSmall);
        check.hold(Promise01Test::tooLarge);
        check.hold(Promise01Test::noFaults);
        check.hold(Promise01Test::noMarch);
        check.hold(Promise01Test::groundAndPort);
        check.hold(Promise01Test::nothingYet);
        check.finish();
    }
}

/** covered: of all single faults of a kind, how many are found, or how many there are. */
final class Promise06Test {
    private static void parts(Check check, MarchTests x, String name, int kind, long found, long all) {
        check.due(name + ": covered(" + kind + ", 0)", found, () -> x.covered(kind, 0));
        check.due(name + ": covered(" + kind + ", 1)", all, () -> x.covered(kind, 1));
    }

    /** MATS+ on two cells: few enough to be followed on paper. */
    private static void byHand(Check check) {
        MarchTests x = Check.marching(2, 1, "*(w0);^(r0,w1);v(r1,w0)");
        // 3: nothing is read behind the fall. 7: each flip is written over before the next read.
        // 4: V = 0 reads the 1 of cell 1 on the way down, V = 1 the 0 of the way up: only that is found.
        // 11: the fall of cell 1 flips cell 0 before it is read; that of cell 0 comes last.
        long[] found = {2, 2, 2, 0, 1, 0, 2, 0, 2, 2, 2, 1, 2, 2};
        for (int kind = 0; kind < found.length; kind++) {
            parts(check, x, "MATS+ on 2 words", kind, found[kind], 2);
        }
    }

    private static void pairs(Check check) {
        MarchTests x = Check.marching(16, 4, "^(w0)");
        parts(check, x, "16 words of 4", 0, 0, 64);
        parts(check, x, "16 words of 4", 9, 0, 64);
        parts(check, x, "16 words of 4", 10, 0, 4032);
        parts(check, x, "16 words of 4", 13, 0, 4032);
        MarchTests one = Check.marching(1, 1, "^(w1,r1)");
        parts(check, one, "one cell", 0, 1, 1);
        for (int kind = 10; kind < 14; kind++) {
            parts(check, one, "one cell", kind, 0, 0);
        }
        MarchTests broken = Check.marching(3, 2, "^(r1)");
        parts(check, broken, "a march that always fails", 5, 6, 6);
        parts(check, broken, "a march that always fails", 11, 30, 30);
    }

    private static void asThingsAre(Check check) {
        MarchTests x = Check.marching(2, 1, "^(w1);^(r1)");
        parts(check, x, "stuck open", 4, 1, 2);
        x.scramble(0, 1);
        check.due("scrambled, still the first read", 1L, () -> x.covered(4, 0));
        x.port(2);
        check.due("with two ports", 1L, () -> x.covered(7, 0));
        x.port(1);
        check.due("with one port", 0L, () -> x.covered(7, 0));
        check.due("ground 0", 0L, () -> x.covered(1, 0));
        x.ground(2);
        check.due("ground 2: word 1 is read as 0", 1L, () -> x.covered(1, 0));
        MarchTests up = Check.marching(2, 1, "^(w0,r0)");
        up.ground(2);
        check.due("by order 0: word 0 reads the 0 of the start", 1L, () -> up.covered(4, 0));
        MarchTests y = Check.marching(2, 1, "^(w0);^(r0,w1)");
        y.fault(0, 0, 0);
        y.fault(8, 1, 0);
        check.due("a run", 1, () -> y.run(2));
        check.due("alone, by order 0", 1L, () -> y.covered(10, 0));
        check.failings("what failed before stays", y, new int[][] {{1, 0, 1, 1}});
        check.due("the faults stay", 3, () -> y.fault(5, 0, 0));
        check.due("a run", 1, () -> y.run(0));
    }

    private static void thrown(Check check) {
        MarchTests x = new MarchTests(2, 1);
        check.state("no march before no kind", () -> x.covered(14, 2));
        Check.read(x, "^(w0,r0)");
        check.argument("kind 14", () -> x.covered(14, 0));
        check.argument("kind NONE", () -> x.covered(MarchTests.NONE, 1));
        check.argument("a kind far away", () -> x.covered(Integer.MIN_VALUE, 0));
        check.argument("part 2", () -> x.covered(0, 2));
        check.argument("part -1", () -> x.covered(13, -1));
    }

    public static void main(String[] args) {
        Check check = new Check();
        byHand(check);
        pairs(check);
        asThingsAre(check);
        thrown(check);
        check.finish();
    }
}

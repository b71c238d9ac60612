/** covered: of all single faults of a kind, how many are found, or how many there are. */
final class Promise06Test {
    private static final String STATE = "IllegalStateException";
    private static final String ARGUMENT = "IllegalArgumentException";

    private static void parts(Check check, MarchTests x, String name, int kind, long found, long all) {
        check.due(name + ": covered(" + kind + ", 0)", found, () -> x.covered(kind, 0));
        check.due(name + ": covered(" + kind + ", 1)", all, () -> x.covered(kind, 1));
    }

    /** MATS+ on two cells: few enough to be followed on paper. */
    private static void byHand(Check check) {
        check.sentence("part = 0 how many make an operation fail, 1 how many there are");
        MarchTests x = Check.marching(2, 1, "*(w0);^(r0,w1);v(r1,w0)");
        // 3: nothing is read behind the fall. 7: each flip is written over before the next read.
        // 4: V = 0 reads the 1 of cell 1 on the way down, V = 1 the 0 of the way up: only that is found.
        // 11: the fall of cell 1 flips cell 0 before it is read; that of cell 0 comes last.
        long[] found = {2, 2, 2, 0, 1, 0, 2, 0, 2, 2, 2, 1, 2, 2};
        for (int kind = 0; kind < found.length; kind++) {
            parts(check, x, "MATS+ on 2 words", kind, found[kind], 2);
        }
        MarchTests broken = Check.marching(3, 2, "^(r1)");
        parts(check, broken, "a march that always fails", 5, 6, 6);
        parts(check, broken, "a march that always fails", 11, 30, 30);
        MarchTests pause = Check.marching(3, 2, "d");
        parts(check, pause, "a march that never fails", 0, 0, 6);
        parts(check, pause, "a march that never fails", 13, 0, 30);
        // The failing operation may be the very last one.
        MarchTests late = Check.marching(3, 2, "^(w0);^(w1);^(r1)");
        parts(check, late, "a march that reads at its end", 0, 6, 6);
    }

    private static void eachCell(Check check) {
        check.sentence("(each cell, or each two different cells in both ways)");
        for (int kind = 0; kind < 14; kind++) {
            boolean paired = kind > 9;
            parts(check, Check.marching(16, 4, "^(w0)"), "16 words of 4", kind, 0, paired ? 4032 : 64);
            parts(check, Check.marching(2, 1, "^(r1)"), "2 words of 1", kind, 2, 2);
            parts(check, Check.marching(1, 1, "^(r0,r1,r1)"), "one cell", kind, paired ? 0 : 1, paired ? 0 : 1);
        }
        // On the way up only a cell behind the one that rises is read flipped; on the way down those before it are.
        parts(check, Check.marching(16, 1, "^(w0);^(r0,w1)"), "one way", 10, 120, 240);
        parts(check, Check.marching(16, 1, "^(w0);^(r0,w1);v(r1,w0)"), "both ways", 10, 240, 240);
    }

    private static void alone(Check check) {
        check.sentence("one by one");
        MarchTests x = Check.marching(2, 1, "^(w1);^(r1)");
        check.due("none", 0L, () -> x.covered(1, 0));
        x.fault(0, 0, 0);
        x.fault(0, 1, 0);
        check.due("the faults there are do not count", 0L, () -> x.covered(1, 0));
        x.fault(1, 0, 0);
        x.fault(1, 1, 0);
        check.due("four of them leave room for one alone", 2L, () -> x.covered(0, 0));
    }

    private static void asThingsAre(Check check) {
        check.sentence("(with ground, ports and what is scrambled as they are)");
        MarchTests x = Check.marching(2, 1, "^(w1);^(r1)");
        check.due("with one port", 0L, () -> x.covered(7, 0));
        x.port(2);
        check.due("with two ports", 1L, () -> x.covered(7, 0));
        x.port(1);
        check.due("ground 0", 0L, () -> x.covered(1, 0));
        x.ground(2);
        check.due("ground 2: word 1 is read as 0", 1L, () -> x.covered(1, 0));
        // Stuck open on ground 2: each word reads what was read before it, 0 at first and then the other word's.
        MarchTests y = Check.marching(2, 1, "^(w1,r1)");
        y.ground(2);
        check.due("word 0 first, which is read as 1", 2L, () -> y.covered(4, 0));
        y.scramble(0, 1);
        check.due("scrambled: word 1 first, which is read as 0", 1L, () -> y.covered(4, 0));
    }

    private static void byOrder0(Check check) {
        check.sentence("run by order 0");
        MarchTests up = Check.marching(2, 1, "^(w0,r0)");
        up.ground(2);
        check.due("word 0 reads the 0 of the start", 1L, () -> up.covered(4, 0));
        up.run(2);
        check.due("also behind a run by order 2", 1L, () -> up.covered(4, 0));
        up.scramble(0, 1);
        check.due("the other way round it would be", 2L, () -> up.covered(4, 0));
    }

    private static void stays(Check check) {
        check.sentence("(The faults, and what failed before, stay.)");
        for (int part = 0; part < 2; part++) {
            for (int kind = 0; kind < 14; kind++) {
                MarchTests x = Twin.used();
                x.covered(kind, part);
                Twin.isAsUsed(check, "behind covered(" + kind + ", " + part + ")", x);
            }
        }
        MarchTests full = Twin.full();
        full.covered(10, 0);
        Twin.isAsFull(check, "four faults", full);
    }

    private static void thrown(Check check) {
        check.sentence("IllegalArgumentException: no such kind or part");
        MarchTests x = Check.marching(2, 1, "^(w0,r0)");
        for (int kind : new int[] {14, 15, MarchTests.NONE, -2, Integer.MIN_VALUE, Integer.MAX_VALUE}) {
            check.argument("covered(" + kind + ", 0)", () -> x.covered(kind, 0));
            check.argument("covered(" + kind + ", 1)", () -> x.covered(kind, 1));
        }
        for (int part : new int[] {2, 3, -1, Integer.MIN_VALUE, Integer.MAX_VALUE}) {
            check.argument("covered(0, " + part + ")", () -> x.covered(0, part));
            check.argument("covered(13, " + part + ")", () -> x.covered(13, part));
        }
        check.terms("the one named first when several would do");
        check.state("no march before no kind", () -> new MarchTests(2, 1).covered(14, 0));
        check.state("no march before no part", () -> new MarchTests(2, 1).covered(0, 2));
        check.terms("IllegalStateException: no march was read");
        check.state("covered(0, 0)", () -> new MarchTests(2, 1).covered(0, 0));
        check.state("how many there are, too", () -> new MarchTests(2, 1).covered(0, 1));
        check.terms("A call that throws changes nothing.");
        Twin.changesNothing(check, "covered(14, 0)", ARGUMENT, y -> y.covered(14, 0));
        Twin.changesNothing(check, "covered(0, 2)", ARGUMENT, y -> y.covered(0, 2));
        Twin.changesNothingWithoutMarch(check, "covered(0, 0)", STATE, y -> y.covered(0, 0));
    }

    public static void main(String[] args) {
        Check check = new Check("promise 6 (covered)");
        check.hold(Promise06Test::byHand);
        check.hold(Promise06Test::eachCell);
        check.hold(Promise06Test::alone);
        check.hold(Promise06Test::asThingsAre);
        check.hold(Promise06Test::byOrder0);
        check.hold(Promise06Test::stays);
        check.hold(Promise06Test::thrown);
        check.finish();
    }
}

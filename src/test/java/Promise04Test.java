/** fault: one more, or all gone; and what it throws, first things first. */
final class Promise04Test {
    private static final String INDEX = "IndexOutOfBoundsException";
    private static final String STATE = "IllegalStateException";
    private static final String ARGUMENT = "IllegalArgumentException";

    private static void howMany(Check check) {
        check.sentence("One more fault: how many there are");
        MarchTests x = new MarchTests(4, 2);
        check.due("the first", 1, () -> x.fault(0, 7, 0));
        check.due("the same again", 2, () -> x.fault(0, 7, 0));
        check.due("the third", 3, () -> x.fault(13, 0, 7));
        check.due("the fourth", 4, () -> x.fault(5, 1, 1));
        check.terms("At most 4");
        check.state("the fifth", () -> x.fault(0, 0, 0));
        check.due("there were four", 0, () -> x.fault(MarchTests.NONE, 0, 0));
        check.due("the first again", 1, () -> x.fault(1, 0, 0));
    }

    private static void allKinds(Check check) {
        check.terms("A FAULT has a kind, a cell V, and for kinds 10 to 13 another cell A.");
        for (int k = 0; k < 14; k++) {
            int kind = k;
            check.due("fault(" + kind + ", 7, 0)", 1, () -> new MarchTests(4, 2).fault(kind, 7, 0));
            check.due("fault(" + kind + ", 0, 7)", 1, () -> new MarchTests(4, 2).fault(kind, 0, 7));
        }
    }

    private static void none(Check check) {
        check.sentence("kind NONE: all are gone (0; cells do not matter)");
        MarchTests x = Check.marching(2, 1, "^(w0,r0)");
        check.due("without any", 0, () -> x.fault(MarchTests.NONE, 0, 0));
        for (int[] cells : new int[][] {{-1, -1}, {2, 2}, {Integer.MIN_VALUE, Integer.MAX_VALUE}, {0, 0}}) {
            for (int i = 0; i < 4; i++) {
                x.fault(1, 1, 0);
            }
            check.due("found", 1, () -> x.run(0));
            check.due("all are gone", 0, () -> x.fault(MarchTests.NONE, cells[0], cells[1]));
            check.due("what failed stays", 1, () -> x.failing(0, 4));
            check.due("nothing is found", 0, () -> x.run(0));
        }
        check.due("room again", 1, () -> x.fault(0, 0, 0));
    }

    private static void noSuchCell(Check check) {
        check.sentence("IndexOutOfBoundsException: a cell");
        for (int k = 0; k < 14; k++) {
            int kind = k;
            for (int cell : new int[] {-1, 8, 9, 64, Integer.MIN_VALUE, Integer.MAX_VALUE}) {
                check.index("fault(" + kind + ", " + cell + ", 0)", () -> new MarchTests(4, 2).fault(kind, cell, 0));
            }
        }
        check.due("the last cell of the largest memory", 1, () -> new MarchTests(16, 4).fault(0, 63, 0));
        check.index("one too far", () -> new MarchTests(16, 4).fault(0, 64, 0));
        check.due("the only cell of the least", 1, () -> new MarchTests(1, 1).fault(0, 0, 0));
        check.index("one too far", () -> new MarchTests(1, 1).fault(0, 1, 0));
    }

    private static void noSuchOtherCell(Check check) {
        check.sentence("(the other one only for kinds 10 to 13)");
        for (int k = 0; k < 14; k++) {
            int kind = k;
            Object due = kind < 10 ? 1 : INDEX;
            for (int other : new int[] {-1, 8, Integer.MIN_VALUE, Integer.MAX_VALUE}) {
                check.due("fault(" + kind + ", 0, " + other + ")", due, () -> new MarchTests(4, 2).fault(kind, 0, other));
            }
        }
        check.argument("kind 14 has no other cell", () -> new MarchTests(4, 2).fault(14, 0, 8));
        check.argument("kind -2 has no other cell", () -> new MarchTests(4, 2).fault(-2, 0, -1));
        check.due("the last cell is another one", 1, () -> new MarchTests(4, 2).fault(10, 0, 7));
    }

    private static void four(Check check) {
        check.sentence("IllegalStateException: there are 4");
        MarchTests x = new MarchTests(4, 2);
        for (int i = 0; i < 4; i++) {
            x.fault(0, i, 0);
        }
        for (int k = 0; k < 14; k++) {
            int kind = k;
            check.state("a fifth, kind " + kind, () -> x.fault(kind, 1, 2));
        }
    }

    private static void noSuchKind(Check check) {
        check.sentence("IllegalArgumentException: no such kind");
        for (int kind : new int[] {14, 15, -2, -3, Integer.MIN_VALUE, Integer.MAX_VALUE}) {
            check.argument("fault(" + kind + ", 0, 1)", () -> new MarchTests(4, 2).fault(kind, 0, 1));
        }
    }

    private static void sameCells(Check check) {
        check.sentence("or both cells are the same");
        for (int k = 0; k < 14; k++) {
            int kind = k;
            Object due = kind < 10 ? 1 : ARGUMENT;
            check.due("fault(" + kind + ", 3, 3)", due, () -> new MarchTests(4, 2).fault(kind, 3, 3));
            check.due("fault(" + kind + ", 0, 0)", due, () -> new MarchTests(1, 1).fault(kind, 0, 0));
        }
    }

    private static void firstNamedFirst(Check check) {
        check.terms("the one named first when several would do");
        MarchTests x = new MarchTests(4, 2);
        check.index("a cell before the kind", () -> x.fault(14, 8, 0));
        check.index("a cell before the kind", () -> x.fault(-2, -1, 0));
        check.index("both cells are no cells, and the same", () -> x.fault(10, 8, 8));
        for (int i = 0; i < 4; i++) {
            x.fault(0, i, 0);
        }
        check.index("a cell before the fifth", () -> x.fault(0, 8, 0));
        check.index("another cell before the fifth", () -> x.fault(11, 0, 8));
        check.index("a cell before all", () -> x.fault(14, -1, 0));
        check.state("the fifth before the kind", () -> x.fault(14, 0, 0));
        check.state("the fifth before the same cells", () -> x.fault(12, 1, 1));
        check.due("none is before all: nothing of it throws", 0, () -> x.fault(MarchTests.NONE, 8, 8));
    }

    private static void changesNothing(Check check) {
        check.terms("A call that throws changes nothing.");
        Twin.changesNothing(check, "a cell", INDEX, x -> x.fault(0, 8, 0));
        Twin.changesNothing(check, "another cell", INDEX, x -> x.fault(12, 0, -1));
        Twin.changesNothing(check, "a kind", ARGUMENT, x -> x.fault(14, 0, 0));
        Twin.changesNothing(check, "the same cells", ARGUMENT, x -> x.fault(12, 2, 2));
        Twin.changesNothingWhenFull(check, "a fifth", STATE, x -> x.fault(1, 0, 0));
        Twin.changesNothingWhenFull(check, "a cell of a fifth", INDEX, x -> x.fault(1, 8, 0));
    }

    private static void cells(Check check) {
        check.terms("CELL c is bit c modulo BITS of word c / BITS");
        for (int bits = 1; bits <= 4; bits++) {
            for (int cell = 0; cell < 3 * bits; cell++) {
                int[][] due = Check.rows(0, 0, cell / bits, 1 << cell % bits);
                check.run(3, bits, "^(r0)", Check.faults(8, cell, 0), due);
            }
        }
        check.run(16, 4, "^(r0)", Check.faults(8, 63, 0), Check.rows(0, 0, 15, 8));
        check.run(16, 4, "^(r0)", Check.faults(8, 60, 0), Check.rows(0, 0, 15, 1));
        check.run(16, 4, "^(r0)", Check.faults(8, 59, 0), Check.rows(0, 0, 14, 8));
        // The other cell is counted likewise: on ground 3, w0 makes bits 1 and 3 of a word rise, and no others.
        for (int bit = 0; bit < 4; bit++) {
            boolean rises = bit % 2 == 1;
            int[][] ofWord1 = rises ? Check.rows(1, 0, 1, 1) : Check.rows();
            int[][] ofWord0 = rises ? Check.rows(1, 0, 0, 8) : Check.rows();
            check.runOnGround(3, 2, 4, "v(w0);^(r0)", Check.faults(10, 4, bit), ofWord1);
            check.runOnGround(3, 2, 4, "^(w0);^(r0)", Check.faults(10, 3, 4 + bit), ofWord0);
        }
        check.run(2, 4, "^(w1);^(r1,w0)", Check.faults(11, 3, 4), Check.rows());
        check.run(2, 4, "^(w1);v(r1,w0)", Check.faults(11, 3, 4), Check.rows(1, 0, 0, 8));
        check.run(2, 4, "^(w1);v(r1,w0)", Check.faults(11, 4, 3), Check.rows());
    }

    public static void main(String[] args) {
        Check check = new Check("promise 4 (fault)");
        check.hold(Promise04Test::howMany);
        check.hold(Promise04Test::allKinds);
        check.hold(Promise04Test::none);
        check.hold(Promise04Test::noSuchCell);
        check.hold(Promise04Test::noSuchOtherCell);
        check.hold(Promise04Test::four);
        check.hold(Promise04Test::noSuchKind);
        check.hold(Promise04Test::sameCells);
        check.hold(Promise04Test::firstNamedFirst);
        check.hold(Promise04Test::changesNothing);
        check.hold(Promise04Test::cells);
        check.finish();
    }
}

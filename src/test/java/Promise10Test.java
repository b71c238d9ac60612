/** repair: the least number of spares; of several ways the one with the fewest, and the least, rows. */
final class Promise10Test {
    private static final String ARGUMENT = "IllegalArgumentException";

    private static void way(Check check, String name, MarchTests x, int rows, int columns, String spares) {
        int count = spares.replaceAll("[0-9]", "").length();
        check.due(name + ": repair(" + rows + ", " + columns + ")", count, () -> x.repair(rows, columns, 16));
        check.due(name + ": its spares", spares, () -> Spoiled.spares(x, count));
    }

    private static void none(Check check, String name, MarchTests x, int rows, int columns) {
        check.due(name + ": repair(" + rows + ", " + columns + ")", -1, () -> x.repair(rows, columns, 16));
    }

    private static void nothingFailed(Check check) {
        check.sentence("(0 if nothing failed)");
        way(check, "nothing", Spoiled.memory(4, 2), 0, 0, "");
        way(check, "nothing", Spoiled.memory(4, 2), 8, 8, "");
        check.due("no run yet", 0, () -> new MarchTests(4, 2).repair(8, 8, 9));
        check.due("no run yet, no spares and no steps", 0, () -> new MarchTests(4, 2).repair(0, 0, 0));
        check.due("no step is needed", 0, () -> Spoiled.memory(4, 2).repair(0, 0, 0));
        MarchTests mended = Spoiled.memory(4, 2, 0, 31);
        way(check, "two bits", mended, 8, 8, "c0c1");
        mended.fault(MarchTests.NONE, 0, 0);
        mended.run(0);
        way(check, "nothing any more", mended, 0, 0, "");
    }

    private static void eachBit(Check check) {
        check.terms("each bit that failed, of all failing operations kept, must be in a word or at a bit that is replaced");
        MarchTests one = Spoiled.memory(4, 2, 21);
        way(check, "one bit", one, 0, 1, "c1");
        way(check, "one bit", one, 1, 0, "r2");
        MarchTests edges = Spoiled.memory(16, 4, 0, 153);
        way(check, "the first and the last bit", edges, 0, 2, "c0c3");
        way(check, "the first and the last bit", edges, 2, 0, "r0r15");
        // What failed in several operations of one word adds up.
        MarchTests several = Check.marching(2, 2, "^(w0,r0,w1,r1)");
        several.fault(0, 0, 0);
        several.fault(1, 1, 0);
        several.run(0);
        way(check, "two operations", several, 0, 2, "c0c1");
        none(check, "two operations", several, 0, 1);
    }

    /** The 300th that failed counts, the 301st does not. */
    private static void kept(Check check) {
        check.terms("of all failing operations kept");
        MarchTests x = new MarchTests(15, 1);
        for (int i = 0; i < 2; i++) {
            Check.tell(x, "^(r1,r1,r1,r1,r1,r1,r1,r1)");
        }
        Check.tell(x, "^(r1,r1,r1,r1,r1,r1,r1)^(r0)");
        check.due("four elements", 4, x::read);
        // Words 2 and 9 are read wrong: 23 r1 fail in each of the 13 others, then r0 in these two.
        x.fault(8, 2, 0);
        x.fault(8, 9, 0);
        check.due("301 fail", 1, () -> x.run(0));
        check.due("300 are kept", 300, () -> x.failing(0, 4));
        check.due("the 300th is in word 2", 2, () -> x.failing(299, 2));
        check.due("14 words are among them", -2, () -> x.repair(8, 1, 13));
        check.due("14 words are among them", 1, () -> x.repair(8, 1, 14));
    }

    private static void least(Check check) {
        check.terms("The least number of spares");
        MarchTests row = Spoiled.memory(4, 4, 10, 11, 12, 13);
        way(check, "a word", row, 8, 8, "r1");
        way(check, "a word", row, 1, 4, "r1");
        way(check, "a word", row, 0, 4, "c0c1c2c3");
        MarchTests column = Spoiled.memory(4, 4, 2, 12, 22, 32);
        way(check, "a column", column, 8, 8, "c2");
        way(check, "a column", column, 4, 1, "c2");
        way(check, "a column", column, 4, 0, "r0r1r2r3");
        MarchTests cross = Spoiled.memory(4, 4, 30, 31, 2, 12);
        way(check, "a cross", cross, 8, 8, "r3c2");
        way(check, "a cross", cross, 0, 3, "c0c1c2");
        way(check, "a cross", cross, 3, 0, "r0r1r3");
        way(check, "all of 16 words", Spoiled.wholly(16, 4), 8, 8, "c0c1c2c3");
        way(check, "all of 3 words", Spoiled.wholly(3, 4), 8, 8, "r0r1r2");
        way(check, "all of 8 words", Spoiled.wholly(8, 4), 8, 3, "r0r1r2r3r4r5r6r7");
    }

    private static void fewestRows(Check check) {
        check.terms("of several ways the one with the fewest rows");
        way(check, "one bit", Spoiled.memory(4, 2, 21), 1, 1, "c1");
        way(check, "one cell", Spoiled.memory(1, 1, 0), 8, 8, "c0");
        way(check, "all of 4 words", Spoiled.wholly(4, 4), 8, 8, "c0c1c2c3");
        MarchTests steps = Spoiled.memory(4, 4, 0, 11, 22, 33);
        way(check, "a diagonal", steps, 8, 8, "c0c1c2c3");
        way(check, "a diagonal", steps, 8, 3, "r0c1c2c3");
        way(check, "a diagonal", steps, 8, 2, "r0r1c2c3");
        way(check, "a diagonal", steps, 8, 1, "r0r1r2c3");
        way(check, "a diagonal", steps, 8, 0, "r0r1r2r3");
    }

    private static void leastRow(Check check) {
        check.terms("then with the least row, then the next");
        way(check, "the least", Spoiled.memory(3, 2, 0, 21), 1, 1, "r0c1");
        way(check, "the least", Spoiled.memory(3, 2, 1, 20), 1, 1, "r0c0");
        way(check, "the least of the last", Spoiled.memory(16, 2, 140, 151), 1, 1, "r14c1");
        way(check, "the next", Spoiled.memory(3, 4, 2, 3, 10, 21), 2, 1, "r0r1c1");
        way(check, "the next", Spoiled.memory(3, 4, 2, 3, 11, 20), 2, 1, "r0r1c0");
        way(check, "the one behind it", Spoiled.memory(4, 4, 0, 11, 23, 32), 3, 1, "r0r1r2c2");
        way(check, "the one behind it", Spoiled.memory(4, 4, 3, 12, 20, 31), 3, 1, "r0r1r2c1");
    }

    private static void noneWillDo(Check check) {
        check.sentence("-1 none will do");
        none(check, "one bit", Spoiled.memory(4, 2, 21), 0, 0);
        none(check, "a word", Spoiled.memory(4, 4, 10, 11, 12, 13), 0, 3);
        none(check, "a column", Spoiled.memory(4, 4, 2, 12, 22, 32), 3, 0);
        none(check, "a diagonal", Spoiled.memory(4, 4, 0, 11, 22, 33), 2, 1);
        none(check, "a diagonal", Spoiled.memory(4, 4, 0, 11, 22, 33), 0, 3);
        none(check, "all of 16 words", Spoiled.wholly(16, 4), 8, 3);
        none(check, "all of 9 words", Spoiled.wholly(9, 4), 8, 3);
        none(check, "all of 9 words of 1", Spoiled.wholly(9, 1), 8, 0);
        way(check, "all of 8 words of 1", Spoiled.wholly(8, 1), 8, 0, "r0r1r2r3r4r5r6r7");
    }

    private static void steps(Check check) {
        check.sentence("-2 there are more words with a failed bit than steps");
        MarchTests x = Spoiled.memory(4, 2, 0, 1, 30);
        check.due("two words, 2 steps", 2, () -> x.repair(8, 8, 2));
        MarchTests often = Check.marching(2, 2, "^(r1,r1,r1)^(r1)");
        often.run(0);
        check.due("two words that failed often, 2 steps", 2, () -> often.repair(8, 8, 2));
        check.due("two words that failed often, 1 step", -2, () -> often.repair(8, 8, 1));
        check.due("two words, 1 step", -2, () -> x.repair(8, 8, 1));
        check.due("two words, no step", -2, () -> x.repair(8, 8, 0));
        check.due("two words, no step and no spares", -2, () -> x.repair(0, 0, 0));
        check.due("two words, 1 step and no spares", -2, () -> x.repair(0, 0, 1));
        check.due("two words, 2 steps and no spares", -1, () -> x.repair(0, 0, 2));
        check.due("two words, many steps", 2, () -> x.repair(8, 8, Long.MAX_VALUE));
        check.due("steps beyond 32 bits", 2, () -> x.repair(8, 8, 1L << 32));
        check.due("steps beyond 31 bits", 2, () -> x.repair(8, 8, 1L << 31));
        check.due("16 words, 15 steps", -2, () -> Spoiled.wholly(16, 4).repair(8, 8, 15));
        check.due("16 words, 16 steps", 4, () -> Spoiled.wholly(16, 4).repair(8, 8, 16));
        check.due("no word, no step", 0, () -> Spoiled.memory(4, 2).repair(0, 0, 0));
    }

    private static void thrown(Check check) {
        check.sentence("IllegalArgumentException: rows or columns are not 0 .. 8");
        MarchTests x = Spoiled.memory(4, 2, 0);
        for (int number : new int[] {9, 10, -1, Integer.MIN_VALUE, Integer.MAX_VALUE}) {
            check.argument("repair(" + number + ", 0, 9)", () -> x.repair(number, 0, 9));
            check.argument("repair(0, " + number + ", 9)", () -> x.repair(0, number, 9));
            check.argument("repair(" + number + ", 0, 0)", () -> x.repair(number, 0, 0));
        }
        for (int n = 0; n <= 8; n++) {
            int number = n;
            check.due("repair(" + n + ", 8, 9)", 1, () -> x.repair(number, 8, 9));
            check.due("repair(8, " + n + ", 9)", 1, () -> x.repair(8, number, 9));
        }
        check.sentence("or steps are below 0");
        check.argument("steps -1", () -> x.repair(0, 0, -1));
        check.argument("steps far below 0", () -> x.repair(8, 8, Long.MIN_VALUE));
        check.argument("steps below 0, though the lowest 32 bits are not", () -> x.repair(8, 8, -(1L << 32) + 5));
        check.argument("steps below 0 and nothing failed", () -> new MarchTests(1, 1).repair(0, 0, -1));
        check.terms("A call that throws changes nothing.");
        Twin.changesNothing(check, "repair(9, 0, 0)", ARGUMENT, y -> y.repair(9, 0, 0));
        Twin.changesNothing(check, "repair(0, -1, 0)", ARGUMENT, y -> y.repair(0, -1, 0));
        Twin.changesNothing(check, "repair(0, 0, -1)", ARGUMENT, y -> y.repair(0, 0, -1));
        Twin.changesNothingWithoutMarch(check, "repair(0, 0, -1)", ARGUMENT, y -> y.repair(0, 0, -1));
    }

    public static void main(String[] args) {
        Check check = new Check("promise 10 (repair)");
        check.hold(Promise10Test::nothingFailed);
        check.hold(Promise10Test::eachBit);
        check.hold(Promise10Test::kept);
        check.hold(Promise10Test::least);
        check.hold(Promise10Test::fewestRows);
        check.hold(Promise10Test::leastRow);
        check.hold(Promise10Test::noneWillDo);
        check.hold(Promise10Test::steps);
        check.hold(Promise10Test::thrown);
        check.finish();
    }
}

/** repair: the least number of spares; of several ways the one with the fewest, and the least, rows. */
final class Promise10Test {
    private static void way(Check check, String name, MarchTests x, int rows, int columns, String spares) {
        int count = spares.length() / 2;
        check.due(name + ": repair(" + rows + ", " + columns + ")", count, () -> x.repair(rows, columns, 16));
        check.due(name + ": its spares", spares, () -> Spoiled.spares(x, count));
    }

    private static void none(Check check, String name, MarchTests x, int rows, int columns) {
        check.due(name + ": repair(" + rows + ", " + columns + ")", -1, () -> x.repair(rows, columns, 16));
    }

    private static void ways(Check check) {
        way(check, "nothing", Spoiled.memory(4, 2), 0, 0, "");
        way(check, "nothing", Spoiled.memory(4, 2), 8, 8, "");
        MarchTests one = Spoiled.memory(4, 2, 21);
        way(check, "one bit", one, 1, 1, "c1");
        way(check, "one bit", one, 1, 0, "r2");
        none(check, "one bit", one, 0, 0);
        MarchTests row = Spoiled.memory(4, 4, 10, 11, 12, 13);
        way(check, "a word", row, 8, 8, "r1");
        way(check, "a word", row, 0, 4, "c0c1c2c3");
        none(check, "a word", row, 0, 3);
        MarchTests column = Spoiled.memory(4, 4, 2, 12, 22, 32);
        way(check, "a column", column, 8, 8, "c2");
        way(check, "a column", column, 4, 0, "r0r1r2r3");
        none(check, "a column", column, 3, 0);
        MarchTests steps = Spoiled.memory(4, 4, 0, 11, 22, 33);
        way(check, "a diagonal", steps, 8, 8, "c0c1c2c3");
        way(check, "a diagonal", steps, 2, 2, "r0r1c2c3");
        way(check, "a diagonal", steps, 3, 1, "r0r1r2c3");
        none(check, "a diagonal", steps, 2, 1);
        MarchTests cross = Spoiled.memory(4, 4, 30, 31, 2, 12);
        way(check, "a cross", cross, 8, 8, "r3c2");
        way(check, "a cross", cross, 0, 3, "c0c1c2");
        way(check, "a cross", cross, 3, 0, "r0r1r3");
        way(check, "all", Spoiled.wholly(16, 4), 8, 8, "c0c1c2c3");
        none(check, "all", Spoiled.wholly(16, 4), 8, 3);
        way(check, "all", Spoiled.wholly(3, 4), 3, 8, "r0r1r2");
        way(check, "all", Spoiled.wholly(4, 4), 8, 8, "c0c1c2c3");
        // Two ways with one row and one column each: the one with the lesser row.
        way(check, "rows by their numbers", Spoiled.memory(3, 2, 0, 21), 1, 1, "r0c1");
        way(check, "rows by their numbers", Spoiled.memory(3, 2, 1, 20), 1, 1, "r0c0");
    }

    private static void steps(Check check) {
        MarchTests x = Spoiled.memory(4, 2, 0, 1, 30);
        check.due("two words, 2 steps", 2, () -> x.repair(8, 8, 2));
        check.due("two words, 1 step", -2, () -> x.repair(8, 8, 1));
        check.due("two words, no step", -2, () -> x.repair(8, 8, 0));
        check.due("two words, no step and no spares", -2, () -> x.repair(0, 0, 0));
        check.due("two words, many steps", 2, () -> x.repair(8, 8, Long.MAX_VALUE));
        check.due("steps beyond 32 bits", 2, () -> x.repair(8, 8, 1L << 32));
        check.due("no word, no step", 0, () -> Spoiled.memory(4, 2).repair(0, 0, 0));
        check.due("no run, no step", 0, () -> new MarchTests(4, 2).repair(0, 0, 0));
    }

    private static void thrown(Check check) {
        MarchTests x = Spoiled.memory(4, 2, 0);
        x.repair(1, 1, 1);
        check.argument("rows 9", () -> x.repair(9, 0, 0));
        check.argument("rows -1", () -> x.repair(-1, 0, 0));
        check.argument("columns 9", () -> x.repair(0, 9, 0));
        check.argument("columns -1", () -> x.repair(0, -1, 0));
        check.argument("steps -1", () -> x.repair(0, 0, -1));
        check.argument("steps far below 0", () -> x.repair(8, 8, Long.MIN_VALUE));
        check.due("what throws changes nothing", "c0", () -> Spoiled.spares(x, 1));
        check.due("what throws changes nothing", true, x::proved);
    }

    /** Only the failing operations that are kept count. */
    private static void kept(Check check) {
        MarchTests x = new MarchTests(16, 2);
        Check.tell(x, "^(w0)");
        for (int i = 0; i < 3; i++) {
            Check.tell(x, "^(r1,r1,r1,r1,r1,r1,r1,r1)");
        }
        Check.tell(x, "^(r0)");
        check.due("five elements", 5, x::read);
        // Word 3 is read wrong: it fails at the last r0 alone, behind 360 others.
        x.fault(8, 6, 0);
        x.fault(8, 7, 0);
        check.due("361 fail", 1, () -> x.run(0));
        check.due("300 are kept", 300, () -> x.failing(0, 4));
        check.due("15 words are among them", -2, () -> x.repair(8, 2, 14));
        check.due("15 words are among them", 2, () -> x.repair(8, 2, 15));
    }

    public static void main(String[] args) {
        Check check = new Check();
        ways(check);
        steps(check);
        thrown(check);
        kept(check);
        check.finish();
    }
}

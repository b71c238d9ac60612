/** ground: which value is 0 in each bit. */
final class Promise15Test {
    private static final String ARGUMENT = "IllegalArgumentException";

    /** All cells have 0 before the march: what r0 finds wrong is the ground's 0. */
    private static void ground(Check check, int kind, int evenWords, int oddWords) {
        MarchTests x = Check.marching(16, 4, "^(r0)");
        x.ground(kind);
        x.run(0);
        int k = 0;
        for (int word = 0; word < 16; word++) {
            int wrong = word % 2 == 0 ? evenWords : oddWords;
            if (wrong != 0) {
                int row = k;
                check.due("ground " + kind + ": the word", word, () -> x.failing(row, 2));
                check.due("ground " + kind + ", word " + word, wrong, () -> x.failing(row, 3));
                k++;
            }
        }
        int count = k;
        check.due("ground " + kind + ": no more", count, () -> x.failing(0, 4));
        MarchTests one = Check.marching(1, 1, "^(r0)");
        one.ground(kind);
        check.due("ground " + kind + ": the only cell", 0, () -> one.run(0));
    }

    private static void otherOne(Check check) {
        check.terms("THE GROUND tells for each bit which value is 0 (and 1 the other one)");
        for (int k = 0; k < 4; k++) {
            int kind = k;
            MarchTests x = Check.marching(4, 4, "^(w0,r0,w1,r1)v(r1,w0,r0)");
            x.ground(kind);
            check.due("a sound memory on ground " + kind, 0, () -> x.run(0));
            Check.read(x, "^(w0,r1)");
            check.due("r1 behind w0 on ground " + kind, 1, () -> x.run(0));
            check.due("all bits are wrong", 15, () -> x.failing(1, 3));
        }
    }

    private static void kinds(Check check) {
        check.terms("ground 0 always 0");
        ground(check, 0, 0, 0);
        check.terms("1 the bit's and the word's number together modulo 2");
        ground(check, 1, 10, 5);
        check.terms("2 the word's number modulo 2");
        ground(check, 2, 0, 15);
        check.terms("3 the bit's number modulo 2");
        ground(check, 3, 10, 10);
    }

    private static void wordsNumber(Check check) {
        check.terms("2 the word's number modulo 2");
        MarchTests x = Check.marching(2, 1, "^(w0,r0)");
        x.fault(0, 1, 0);
        x.ground(2);
        check.due("word 1 is told 1", 1, () -> x.run(0));
        check.due("word 1", 1, () -> x.failing(0, 2));
        check.due("by order 2", 1, () -> x.run(2));
        check.due("word 1", 1, () -> x.failing(0, 2));
        x.scramble(0, 1);
        check.due("scrambled: not the place's number", 1, () -> x.run(0));
        check.due("word 1", 1, () -> x.failing(0, 2));
    }

    private static void anotherOne(Check check) {
        check.sentence("The ground from now on: whether it is another one");
        MarchTests x = new MarchTests(2, 1);
        int before = 0;
        for (int kind : new int[] {0, 0, 1, 1, 2, 3, 3, 0, 2, 1, 0}) {
            boolean another = kind != before;
            check.due("ground(" + kind + ") behind " + before, another, () -> x.ground(kind));
            before = kind;
        }
        MarchTests y = Check.marching(2, 1, "^(r0)");
        check.due("ground 0", 0, () -> y.run(0));
        y.ground(2);
        check.due("what failed stays", 0, () -> y.failing(0, 4));
        check.due("ground 2 from now on", 1, () -> y.run(0));
        y.ground(0);
        check.due("ground 0 from now on", 0, () -> y.run(0));
    }

    private static void thrown(Check check) {
        check.sentence("IllegalArgumentException: it is not 0 .. 3");
        MarchTests x = new MarchTests(2, 1);
        for (int kind : new int[] {4, 5, -1, Integer.MIN_VALUE, Integer.MAX_VALUE}) {
            check.argument("ground(" + kind + ")", () -> x.ground(kind));
        }
        check.due("ground 0 still", false, () -> x.ground(0));
        check.due("ground 3", true, () -> x.ground(3));
        check.argument("ground(4)", () -> x.ground(4));
        check.due("ground 3 still", false, () -> x.ground(3));
        check.terms("A call that throws changes nothing.");
        Twin.changesNothing(check, "ground(4)", ARGUMENT, y -> y.ground(4));
        Twin.changesNothing(check, "ground(-1)", ARGUMENT, y -> y.ground(-1));
    }

    public static void main(String[] args) {
        Check check = new Check("promise 15 (ground)");
        check.hold(Promise15Test::otherOne);
        check.hold(Promise15Test::kinds);
        check.hold(Promise15Test::wordsNumber);
        check.hold(Promise15Test::anotherOne);
        check.hold(Promise15Test::thrown);
        check.finish();
    }
}

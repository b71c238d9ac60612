/** scramble: two words are exchanged in what is scrambled. */
final class Promise08Test {
    private static void walk(Check check, String name, MarchTests x, int order, int... words) {
        x.run(order);
        for (int i = 0; i < words.length; i++) {
            int k = i;
            check.due(name + ", place " + i, words[i], () -> x.failing(k, 2));
        }
    }

    public static void main(String[] args) {
        Check check = new Check();
        MarchTests x = Check.marching(4, 1, "^(r1)");
        check.due("the same word", false, () -> x.scramble(2, 2));
        walk(check, "nothing exchanged", x, 0, 0, 1, 2, 3);
        check.due("two words", true, () -> x.scramble(0, 3));
        walk(check, "0 and 3", x, 0, 3, 1, 2, 0);
        walk(check, "0 and 3 by bits", x, 1, 3, 2, 1, 0);
        walk(check, "0 and 3 from the highest", x, 2, 0, 2, 1, 3);
        check.due("two more", true, () -> x.scramble(1, 2));
        walk(check, "and 1 and 2", x, 0, 3, 2, 1, 0);
        check.due("back", true, () -> x.scramble(3, 0));
        check.due("back", true, () -> x.scramble(2, 1));
        walk(check, "as it was", x, 0, 0, 1, 2, 3);
        x.scramble(0, 1);
        x.scramble(1, 2);
        walk(check, "0 and 1, then 1 and 2", x, 0, 1, 2, 0, 3);
        check.index("a word too far", () -> x.scramble(4, 0));
        check.index("a word too far", () -> x.scramble(0, 4));
        check.index("a word below 0", () -> x.scramble(-1, -1));
        check.index("a word far away", () -> x.scramble(0, Integer.MIN_VALUE));
        walk(check, "what throws changes nothing", x, 0, 1, 2, 0, 3);
        MarchTests y = Check.marching(4, 1, "^(w0);^(r0,w1)");
        y.fault(10, 3, 0);
        check.due("word 0 is before word 3", 1, () -> y.run(0));
        y.scramble(0, 3);
        check.due("word 0 is behind word 3", 0, () -> y.run(0));
        check.finish();
    }
}

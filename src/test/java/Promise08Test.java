/** scramble: two words are exchanged in what is scrambled. */
final class Promise08Test {
    private static String walk(MarchTests x, int order) {
        StringBuilder words = new StringBuilder();
        x.run(order);
        for (int k = 0; k < x.failing(0, 4); k++) {
            words.append(x.failing(k, 2)).append(' ');
        }
        return words.toString();
    }

    private static MarchTests walker(int words) {
        return Check.marching(words, 1, "^(r1)");
    }

    private static void differentOnes(Check check) {
        check.sentence("whether they are different ones");
        MarchTests x = walker(16);
        for (int from = 0; from < 16; from++) {
            for (int to = 0; to < 16; to++) {
                int f = from;
                int t = to;
                check.due("scramble(" + from + ", " + to + ")", from != to, () -> x.scramble(f, t));
            }
        }
        check.due("one word", false, () -> new MarchTests(1, 1).scramble(0, 0));
        MarchTests same = walker(4);
        same.scramble(2, 2);
        check.due("the same word changes nothing", "0 1 2 3 ", () -> walk(same, 0));
    }

    private static void exchanged(Check check) {
        check.sentence("Two words are exchanged in what is scrambled");
        MarchTests x = walker(4);
        x.scramble(0, 3);
        check.due("0 and 3", "3 1 2 0 ", () -> walk(x, 0));
        x.scramble(1, 2);
        check.due("and 1 and 2", "3 2 1 0 ", () -> walk(x, 0));
        x.scramble(3, 0);
        x.scramble(2, 1);
        check.due("back, told the other way round", "0 1 2 3 ", () -> walk(x, 0));
        x.scramble(0, 1);
        x.scramble(1, 2);
        check.due("0 and 1, then 1 and 2", "1 2 0 3 ", () -> walk(x, 0));
        MarchTests y = walker(16);
        y.scramble(0, 15);
        check.due("the first and the last", "15 1 2 3 4 5 6 7 8 9 10 11 12 13 14 0 ", () -> walk(y, 0));
    }

    private static void behindTheOrder(Check check) {
        check.terms("then SCRAMBLED: words that were exchanged are so");
        MarchTests x = walker(4);
        x.scramble(0, 3);
        check.due("by bits", "3 2 1 0 ", () -> walk(x, 1));
        check.due("from the highest", "0 2 1 3 ", () -> walk(x, 2));
        MarchTests three = walker(3);
        three.scramble(0, 1);
        check.due("by bits, three words", "1 2 0 ", () -> walk(three, 1));
        MarchTests y = Check.marching(4, 1, "^(w0);^(r0,w1)");
        y.fault(10, 3, 0);
        check.due("word 0 is before word 3", 1, () -> y.run(0));
        y.scramble(0, 3);
        check.due("word 0 is behind word 3", 0, () -> y.run(0));
    }

    private static void thrown(Check check) {
        check.terms("IndexOutOfBoundsException: there is no such cell, word, row or what.");
        for (int word : new int[] {4, 5, 16, -1, Integer.MIN_VALUE, Integer.MAX_VALUE}) {
            MarchTests x = walker(4);
            check.index("scramble(" + word + ", 0)", () -> x.scramble(word, 0));
            check.index("scramble(0, " + word + ")", () -> x.scramble(0, word));
            check.index("scramble(" + word + ", " + word + ")", () -> x.scramble(word, word));
            check.due("as it was", "0 1 2 3 ", () -> walk(x, 0));
        }
        check.index("one word", () -> new MarchTests(1, 1).scramble(0, 1));
        check.index("16 words", () -> new MarchTests(16, 1).scramble(16, 0));
        check.terms("A call that throws changes nothing.");
        Twin.changesNothing(check, "scramble(4, 0)", "IndexOutOfBoundsException", y -> y.scramble(4, 0));
        Twin.changesNothing(check, "scramble(1, -1)", "IndexOutOfBoundsException", y -> y.scramble(1, -1));
    }

    public static void main(String[] args) {
        Check check = new Check("promise 8 (scramble)");
        check.hold(Promise08Test::differentOnes);
        check.hold(Promise08Test::exchanged);
        check.hold(Promise08Test::behindTheOrder);
        check.hold(Promise08Test::thrown);
        check.finish();
    }
}

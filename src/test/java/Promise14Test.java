/** port: with two, each r reads the word at the place above, too. */
final class Promise14Test {
    private static final String ARGUMENT = "IllegalArgumentException";

    /** The reads of a memory whose cell flips behind each read tell who read it, and when. */
    private static void reads(Check check, String name, MarchTests x, int order, int[][] want) {
        check.due(name, want.length > 0 ? 1 : 0, () -> x.run(order));
        check.failings(name, x, want);
    }

    private static MarchTests flipping(int words, String text, int cell) {
        MarchTests x = Check.marching(words, 1, text);
        x.fault(7, cell, 0);
        x.port(2);
        return x;
    }

    private static void howManyThereWere(Check check) {
        check.sentence("So many ports from now on: how many there were");
        MarchTests x = new MarchTests(2, 1);
        check.due("one at first", 1, () -> x.port(2));
        check.due("two then", 2, () -> x.port(2));
        check.due("two still", 2, () -> x.port(1));
        check.due("one again", 1, () -> x.port(1));
        MarchTests y = flipping(2, "^(r0)", 1);
        check.due("two ports", 1, () -> y.run(0));
        y.port(1);
        check.due("what failed stays", 1, () -> y.failing(0, 4));
        check.due("one port", 0, () -> y.run(0));
    }

    private static void placeAbove(Check check) {
        check.terms("With two PORTS each r reads the word at the place above");
        reads(check, "the second of three", flipping(3, "^(r0)", 1), 0, Check.rows(0, 0, 1, 1));
        reads(check, "the last of three", flipping(3, "^(r0)", 2), 0, Check.rows(0, 0, 2, 1));
        reads(check, "each r", flipping(3, "^(r0,r0)", 2), 0, Check.rows(0, 1, 2, 1));
        reads(check, "each r", flipping(2, "^(r0,r0,r0)", 1), 0, Check.rows(0, 0, 1, 1, 0, 2, 1, 1));
        reads(check, "no w", flipping(2, "v(w0);v(r0)", 1), 0, Check.rows());
        reads(check, "no w", flipping(2, "v(w1,w0)^(w1,w0);v(w0);v(r0)", 0), 0, Check.rows(3, 0, 0, 1));
        reads(check, "above is by places", flipping(3, "^(r0)", 0), 2, Check.rows(0, 0, 0, 1));
        reads(check, "above by bits", flipping(3, "^(r0)", 2), 1, Check.rows(0, 0, 2, 1));
        MarchTests scrambled = flipping(3, "^(r0)", 0);
        scrambled.scramble(0, 2);
        reads(check, "above is scrambled", scrambled, 0, Check.rows(0, 0, 0, 1));
    }

    private static void aboveTheLast(Check check) {
        check.terms("(above the last one the first)");
        reads(check, "up, the first word", flipping(3, "^(r0);^(r0)", 0), 0, Check.rows());
        reads(check, "down, the first word", flipping(3, "v(r0)", 0), 0, Check.rows(0, 0, 0, 1));
        reads(check, "one word is above itself", flipping(1, "^(r0,r0,r0)", 0), 0, Check.rows());
        MarchTests one = Check.marching(1, 1, "^(r0,r0,r0)");
        one.fault(7, 0, 0);
        reads(check, "one word, one port", one, 0, Check.rows(0, 1, 0, 1));
        reads(check, "16 words", flipping(16, "v(r0)", 0), 0, Check.rows(0, 0, 0, 1));
        reads(check, "16 words", flipping(16, "v(r0)", 1), 0, Check.rows());
    }

    private static void whicheverWay(Check check) {
        check.terms("whichever way the element goes");
        reads(check, "down, the last word", flipping(3, "v(r0)", 2), 0, Check.rows());
        reads(check, "down, the second word", flipping(3, "v(r0)", 1), 0, Check.rows());
        reads(check, "down and then up", flipping(3, "v(r0);^(r0)", 2), 0, Check.rows(1, 0, 2, 1));
    }

    private static void behindItsOwn(Check check) {
        check.terms("behind its own (whatever that is)");
        // Word 0's own read comes first: it is stuck open, and does not yet read what word 1 has.
        MarchTests first = Check.marching(2, 1, "^(w1)^(r1)");
        first.fault(4, 0, 0);
        first.port(2);
        reads(check, "stuck open, the first word", first, 0, Check.rows(1, 0, 0, 1));
        MarchTests latest = Check.marching(2, 1, "^(w1)^(r1);v(r1)");
        latest.fault(4, 1, 0);
        latest.port(2);
        reads(check, "the latest read was the second port's", latest, 0, Check.rows());
        MarchTests other = Check.marching(2, 1, "^(w0);^(r0,w1)");
        other.port(2);
        reads(check, "what the second port reads does not matter", other, 0, Check.rows());
        MarchTests failed = flipping(2, "^(r1)", 1);
        reads(check, "a read that failed has a second port too", failed, 0, Check.rows(0, 0, 0, 1));
    }

    private static void thrown(Check check) {
        check.sentence("IllegalArgumentException: they are not 1 or 2");
        MarchTests x = new MarchTests(2, 1);
        for (int ports : new int[] {0, 3, -1, -2, Integer.MIN_VALUE, Integer.MAX_VALUE}) {
            check.argument("port(" + ports + ")", () -> x.port(ports));
        }
        check.due("one still", 1, () -> x.port(2));
        check.argument("port(3)", () -> x.port(3));
        check.due("two still", 2, () -> x.port(2));
        check.terms("A call that throws changes nothing.");
        Twin.changesNothing(check, "port(0)", ARGUMENT, y -> y.port(0));
        Twin.changesNothing(check, "port(3)", ARGUMENT, y -> y.port(3));
    }

    public static void main(String[] args) {
        Check check = new Check("promise 14 (port)");
        check.hold(Promise14Test::howManyThereWere);
        check.hold(Promise14Test::placeAbove);
        check.hold(Promise14Test::aboveTheLast);
        check.hold(Promise14Test::whicheverWay);
        check.hold(Promise14Test::behindItsOwn);
        check.hold(Promise14Test::thrown);
        check.finish();
    }
}

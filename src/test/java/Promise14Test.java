/** port: with two, each r reads the word at the place above, too. */
final class Promise14Test {
    /** The reads of a memory whose cell flips behind each read tell who read it, and when. */
    private static void reads(Check check, String name, MarchTests x, int order, int[][] want) {
        check.due(name, want.length > 0 ? 1 : 0, () -> x.run(order));
        check.failings(name, x, want);
    }

    private static MarchTests flipping(int words, String text, int cell) {
        MarchTests x = Check.marching(words, 1, text);
        x.fault(7, cell, 0);
        x.port(2);
        return x;
    }

    public static void main(String[] args) {
        Check check = new Check();
        MarchTests x = new MarchTests(2, 1);
        check.due("one at first", 1, () -> x.port(2));
        check.due("two then", 2, () -> x.port(2));
        check.due("two still", 2, () -> x.port(1));
        check.due("one again", 1, () -> x.port(1));
        check.argument("no port", () -> x.port(0));
        check.argument("three ports", () -> x.port(3));
        check.argument("ports below 0", () -> x.port(-1));
        check.argument("ports far away", () -> x.port(Integer.MAX_VALUE));
        check.due("what throws changes nothing", 1, () -> x.port(1));
        reads(check, "up, the last word", flipping(3, "^(r0)", 2), 0, new int[][] {{0, 0, 2, 1}});
        reads(check, "up, the first word", flipping(3, "^(r0);^(r0)", 0), 0, new int[][] {});
        reads(check, "down, the first word", flipping(3, "v(r0)", 0), 0, new int[][] {{0, 0, 0, 1}});
        reads(check, "down, the last word", flipping(3, "v(r0)", 2), 0, new int[][] {});
        reads(check, "above is by places", flipping(3, "^(r0)", 0), 2, new int[][] {{0, 0, 0, 1}});
        reads(check, "above by bits", flipping(3, "^(r0)", 2), 1, new int[][] {{0, 0, 2, 1}});
        MarchTests scrambled = flipping(3, "^(r0)", 0);
        scrambled.scramble(0, 2);
        reads(check, "above is scrambled", scrambled, 0, new int[][] {{0, 0, 0, 1}});
        reads(check, "one word is above itself", flipping(1, "^(r0,r0,r0)", 0), 0, new int[][] {});
        reads(check, "writes go through one", flipping(2, "^(w1);^(w0)^(r0)", 1), 0, new int[][] {{2, 0, 1, 1}});
        MarchTests open = Check.marching(2, 1, "^(w1)v(r1)");
        open.fault(4, 1, 0);
        reads(check, "stuck open", open, 0, new int[][] {{1, 0, 1, 1}});
        open.port(2);
        Check.read(open, "^(w1)^(r1);v(r1)");
        reads(check, "the latest read was the second port's", open, 0, new int[][] {});
        MarchTests other = Check.marching(2, 1, "^(w0);^(r0,w1)");
        other.port(2);
        reads(check, "what the second port reads does not matter", other, 0, new int[][] {});
        check.finish();
    }
}

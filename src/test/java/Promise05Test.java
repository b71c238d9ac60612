/** run: the ways that a march goes, what it answers and what it throws. */
final class Promise05Test {
    private static final String STATE = "IllegalStateException";
    private static final String ARGUMENT = "IllegalArgumentException";
    private static final int[] BITS_ROUND = {0, 8, 4, 12, 2, 10, 6, 14, 1, 9, 5, 13, 3, 11, 7, 15};

    /** The words that an always failing r tells, in the order it comes to them. */
    private static String walk(MarchTests x, int order) {
        StringBuilder words = new StringBuilder();
        x.run(order);
        for (int k = 0; k < x.failing(0, 4); k++) {
            words.append(x.failing(k, 2)).append(' ');
        }
        return words.toString();
    }

    private static String upAndDown(int[] words) {
        StringBuilder text = new StringBuilder();
        for (int word : words) {
            text.append(word).append(' ');
        }
        for (int i = words.length - 1; i >= 0; i--) {
            text.append(words[i]).append(' ');
        }
        return text.toString();
    }

    private static int[] wordsByOrder(int order, int words) {
        return java.util.stream.IntStream.range(0, 16)
            .map(place -> order == 0 ? place : order == 1 ? BITS_ROUND[place] : words - 1 - place)
            .filter(word -> word >= 0 && word < words).toArray();
    }

    private static void orders(Check check) {
        String[] told = {
            "By order 0 that is the place",
            "by order 1 the place with its bits the other way round (4 bits; those that are no word are left out,"
                + " in the order of the places 0 .. 15)",
            "by order 2 all places from the highest down"
        };
        for (int o = 0; o < 3; o++) {
            int order = o;
            check.terms(told[order]);
            for (int words = 1; words <= 16; words++) {
                MarchTests x = Check.marching(words, 1, "^(r1);v(r1)");
                String due = upAndDown(wordsByOrder(order, words));
                check.due(words + " words by order " + order, due, () -> walk(x, order));
            }
        }
        MarchTests three = Check.marching(3, 1, "^(r1)");
        check.terms("those that are no word are left out");
        check.due("three words", "0 2 1 ", () -> walk(three, 1));
        MarchTests nine = Check.marching(9, 1, "^(r1)");
        check.due("nine words", "0 8 4 2 6 1 5 3 7 ", () -> walk(nine, 1));
    }

    private static void directions(Check check) {
        check.terms("each element goes over all PLACES, up from 0, or down, and does its operations at each");
        MarchTests x = Check.marching(3, 1, "^(r1,r1)");
        check.due("up", "0 0 1 1 2 2 ", () -> walk(x, 0));
        Check.read(x, "v(r1,r1)");
        check.due("down", "2 2 1 1 0 0 ", () -> walk(x, 0));
        Check.read(x, "*(r1)");
        check.due("either is up", "0 1 2 ", () -> walk(x, 0));
        check.due("either is up by order 2", "2 1 0 ", () -> walk(x, 2));
        MarchTests one = Check.marching(1, 1, "^(r1)v(r1)*(r1)");
        check.due("one place", "0 0 0 ", () -> walk(one, 0));
        check.run(2, 1, "^(w1,r1,w0,r0)v(r0,w1)^(r1)", Check.faults(), Check.rows());
    }

    private static void someBits(Check check) {
        check.terms("An operation r that reads another thing than it tells, at some bits, FAILS.");
        for (int bit = 0; bit < 4; bit++) {
            check.run(1, 4, "^(r0)", Check.faults(8, bit, 0), Check.rows(0, 0, 0, 1 << bit));
        }
        check.run(1, 4, "^(r1)", Check.faults(8, 1, 0), Check.rows(0, 0, 0, 13));
        check.run(1, 4, "^(r1)", Check.faults(), Check.rows(0, 0, 0, 15));
        check.run(1, 4, "^(r1)", Check.faults(8, 0, 0, 8, 1, 0, 8, 2, 0, 8, 3, 0), Check.rows());
        check.run(1, 4, "^(w1)", Check.faults(0, 0, 0), Check.rows());
    }

    private static void oneOrNone(Check check) {
        check.sentence("1 if an operation failed, else 0");
        MarchTests x = Check.marching(4, 2, "^(w0);^(r0)");
        check.due("none failed", 0, () -> x.run(0));
        x.fault(1, 7, 0);
        check.due("the last one alone failed", 1, () -> x.run(0));
        Check.read(x, "^(r1)");
        check.due("several failed", 1, () -> x.run(0));
        Check.read(x, "d");
        check.due("a pause cannot fail", 0, () -> x.run(0));
        Check.read(x, "^(w0)");
        check.due("nor can what only writes", 0, () -> x.run(0));
    }

    private static void forgotten(Check check) {
        check.sentence("what failed before is forgotten");
        MarchTests x = Check.marching(2, 1, "^(r1)");
        x.run(0);
        check.due("two failed", 2, () -> x.failing(0, 4));
        check.due("another run", 1, () -> x.run(2));
        check.failings("only its own", x, Check.rows(0, 0, 1, 1, 0, 0, 0, 1));
        Check.read(x, "^(w0,r0)");
        check.due("another march does not forget", 2, () -> x.failing(0, 4));
        check.due("its run", 0, () -> x.run(0));
        check.due("nothing of it is left", 0, () -> x.failing(0, 4));
        check.index("nothing of it is left", () -> x.failing(0, 0));
        check.due("nor is it repaired", 0, () -> x.repair(0, 0, 0));
    }

    private static void repairStays(Check check) {
        check.sentence("repair() stays as it was told");
        MarchTests x = Check.marching(2, 1, "*(r1)");
        x.run(0);
        check.due("repair", 1, () -> x.repair(8, 8, 9));
        Check.read(x, "*(r0)");
        check.due("nothing fails now", 0, () -> x.run(0));
        check.due("its spare", 1, () -> x.spare(0, 0));
        check.due("its fuse", 1, () -> x.fuse(2));
        check.due("it is proved", true, x::proved);
        Check.read(x, "*(r1)");
        x.run(0);
        check.due("too few steps", -2, () -> x.repair(8, 8, 1));
        Check.read(x, "*(r0)");
        x.run(0);
        check.due("it is not proved", false, x::proved);
        check.index("it has no spare", () -> x.spare(0, 0));
    }

    private static void thrown(Check check) {
        check.sentence("IllegalArgumentException: there is no such order");
        MarchTests x = Check.marching(2, 1, "^(r1)");
        for (int order : new int[] {3, 4, -1, -2, Integer.MIN_VALUE, Integer.MAX_VALUE}) {
            check.argument("run(" + order + ")", () -> x.run(order));
        }
        check.terms("the one named first when several would do");
        check.state("no march before no order", () -> new MarchTests(2, 1).run(3));
        check.state("no march before no order", () -> new MarchTests(2, 1).run(-1));
        check.terms("IllegalStateException: no march was read");
        for (int o = 0; o < 3; o++) {
            int order = o;
            check.state("run(" + order + ")", () -> new MarchTests(2, 1).run(order));
        }
        check.terms("A call that throws changes nothing.");
        Twin.changesNothing(check, "run(3)", ARGUMENT, y -> y.run(3));
        Twin.changesNothing(check, "run(-1)", ARGUMENT, y -> y.run(-1));
        Twin.changesNothingWithoutMarch(check, "run(0)", STATE, y -> y.run(0));
    }

    public static void main(String[] args) {
        Check check = new Check("promise 5 (run)");
        check.hold(Promise05Test::orders);
        check.hold(Promise05Test::directions);
        check.hold(Promise05Test::someBits);
        check.hold(Promise05Test::oneOrNone);
        check.hold(Promise05Test::forgotten);
        check.hold(Promise05Test::repairStays);
        check.hold(Promise05Test::thrown);
        check.finish();
    }
}

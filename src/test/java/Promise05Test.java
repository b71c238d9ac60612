/** run: each kind of fault as the document tells it, orders, and what it throws. */
final class Promise05Test {
    /** Faults are three numbers each; due are the failing operations as element, number, word, bits. */
    private static void run(Check check, int words, int bits, String text, int[][] faults, int[][] want) {
        MarchTests x = Check.marching(words, bits, text);
        String name = text;
        for (int[] f : faults) {
            x.fault(f[0], f[1], f[2]);
            name += " with " + f[0] + " " + f[1] + " " + f[2];
        }
        check.due(name + ": run(0)", want.length > 0 ? 1 : 0, () -> x.run(0));
        check.failings(name, x, want);
    }

    private static int[][] rows(int... numbers) {
        int[][] rows = new int[numbers.length / 4][];
        for (int i = 0; i < rows.length; i++) {
            rows[i] = java.util.Arrays.copyOfRange(numbers, 4 * i, 4 * i + 4);
        }
        return rows;
    }

    private static int[][] faults(int... numbers) {
        int[][] faults = new int[numbers.length / 3][];
        for (int i = 0; i < faults.length; i++) {
            faults[i] = java.util.Arrays.copyOfRange(numbers, 3 * i, 3 * i + 3);
        }
        return faults;
    }

    private static void ofOneCell(Check check) {
        run(check, 2, 2, "^(w1,r1,w0,r0)", faults(), rows());
        run(check, 2, 2, "^(r0,r1)", faults(), rows(0, 1, 0, 3, 0, 1, 1, 3));
        run(check, 2, 2, "^(w1,r1,w0,r0)", faults(0, 3, 0), rows(0, 1, 1, 2));
        run(check, 2, 2, "^(w1,r1,w0,r0)", faults(1, 0, 0), rows(0, 3, 0, 1));
        run(check, 2, 2, "^(r0)", faults(1, 2, 0), rows(0, 0, 1, 1));
        run(check, 2, 2, "^(w1,r1,w0,r0)", faults(2, 1, 0), rows(0, 1, 0, 2));
        run(check, 2, 2, "^(w0,r0,w1,r1,w0,r0)", faults(3, 1, 0), rows(0, 5, 0, 2));
        run(check, 1, 2, "^(w1,r1,w0,r0)", faults(4, 1, 0), rows(0, 1, 0, 2));
        run(check, 2, 1, "^(w1);^(r1)", faults(4, 1, 0), rows());
        run(check, 2, 1, "^(w1);v(r1)", faults(4, 1, 0), rows(1, 0, 1, 1));
        run(check, 1, 2, "^(w1,r1);d^(r1,w1,r1)", faults(5, 0, 0), rows(2, 0, 0, 1));
        run(check, 1, 2, "^(w0,r0,r0,r0)", faults(6, 1, 0), rows(0, 1, 0, 2, 0, 3, 0, 2));
        run(check, 1, 2, "^(w0,r0,r0,r0)", faults(7, 1, 0), rows(0, 2, 0, 2));
        run(check, 1, 2, "^(w0,r0,w1,r1)", faults(8, 0, 0), rows(0, 1, 0, 1, 0, 3, 0, 1));
        run(check, 1, 2, "^(w1,r1,w1,r1,w1,r1)", faults(9, 0, 0), rows(0, 3, 0, 1));
        run(check, 1, 1, "^(w0,r1)", faults(9, 0, 0), rows());
    }

    private static void ofTwoCells(Check check) {
        run(check, 2, 1, "^(w0);^(r0,w1)", faults(10, 1, 0), rows(1, 0, 1, 1));
        run(check, 2, 1, "^(w1);^(r1,w0)", faults(10, 0, 1), rows(1, 0, 0, 1));
        run(check, 2, 1, "^(w1);^(r1,w1)", faults(10, 1, 0), rows());
        run(check, 2, 1, "^(w1);^(r1,w0)", faults(11, 1, 0), rows(1, 0, 1, 1));
        run(check, 2, 1, "^(w0);^(r0,w1)", faults(11, 1, 0), rows());
        run(check, 1, 2, "^(w1,r1)", faults(10, 1, 0), rows());
        run(check, 1, 2, "^(w1,r1)", faults(10, 0, 1), rows(0, 1, 0, 1));
        run(check, 2, 1, "^(w1);^(r1)", faults(12, 0, 1), rows(1, 0, 0, 1));
        run(check, 2, 1, "^(w0);^(r0)", faults(12, 0, 1), rows());
        run(check, 1, 2, "^(w1,r1)", faults(12, 0, 1), rows(0, 1, 0, 1));
        run(check, 2, 1, "^(w0);^(w1,r1)", faults(13, 0, 1), rows(1, 1, 0, 1));
        run(check, 2, 1, "^(w0);^(w1,r1)", faults(13, 1, 0), rows(1, 1, 0, 1));
        run(check, 2, 1, "^(w0);v(w1,r1)", faults(13, 0, 1), rows(1, 1, 1, 1));
        run(check, 2, 1, "^(w1);^(w0,r0)", faults(13, 0, 1), rows());
    }

    private static void ofSeveralFaults(Check check) {
        // A chain ends behind its first link.
        run(check, 3, 1, "^(w0);^(r0,w1)", faults(10, 1, 0, 10, 2, 1), rows(1, 0, 1, 1));
        run(check, 3, 1, "^(w0,w1);v(r1)", faults(10, 0, 2, 11, 1, 0), rows(1, 0, 0, 1));
        // In their order: the latest one that strikes a write tells.
        run(check, 1, 1, "^(w1,r1)", faults(0, 0, 0, 1, 0, 0), rows());
        run(check, 1, 1, "^(w1,r1)", faults(1, 0, 0, 0, 0, 0), rows(0, 1, 0, 1));
        run(check, 1, 1, "^(r1)", faults(8, 0, 0, 4, 0, 0), rows(0, 0, 0, 1));
        run(check, 1, 1, "^(r1)", faults(4, 0, 0, 8, 0, 0), rows());
        run(check, 1, 1, "^(r1,r0,r1)", faults(4, 0, 0, 8, 0, 0), rows());
        run(check, 1, 1, "^(r0,r0)", faults(6, 0, 0, 6, 0, 0), rows());
        run(check, 1, 1, "^(r1)", faults(6, 0, 0, 7, 0, 0), rows());
        run(check, 1, 1, "^(r0)", faults(7, 0, 0, 6, 0, 0), rows());
        run(check, 1, 2, "^(w1,r1)", faults(13, 0, 1, 8, 0, 0), rows(0, 1, 0, 1));
        run(check, 1, 2, "^(w0,r0)", faults(13, 0, 1, 8, 0, 0), rows(0, 1, 0, 1));
        run(check, 1, 2, "^(w0,r0)", faults(8, 0, 0, 13, 0, 1), rows());
        // A flip by a read is a set: it strikes coupled cells.
        run(check, 2, 1, "^(r0)", faults(7, 0, 0, 10, 1, 0), rows(0, 0, 1, 1));
        run(check, 2, 1, "^(r1)", faults(6, 0, 0, 10, 1, 0), rows());
        run(check, 2, 1, "^(r0)", faults(7, 0, 0, 10, 1, 0, 12, 1, 0), rows());
        // A cell that never rises can be flipped to 1, and be written 1 then.
        run(check, 2, 1, "^(w1,r1)", faults(2, 1, 0, 10, 1, 0), rows());
        // What counts for kind 9 is the value that was told, not what other faults made of it.
        run(check, 1, 1, "^(w1,r1)", faults(2, 0, 0, 9, 0, 0), rows(0, 1, 0, 1));
        // What settles behind a word goes by the order of the faults, once each time.
        run(check, 2, 1, "^(r0)", faults(1, 1, 0, 12, 0, 1), rows(0, 0, 1, 1));
        run(check, 3, 1, "^(w1,r1)", faults(12, 0, 1, 1, 1, 0), rows(0, 1, 0, 1));
        // Behind a pause, too; the cell that fades is stuck again then.
        run(check, 1, 1, "d^(r1)", faults(5, 0, 0, 1, 0, 0), rows());
        run(check, 2, 1, "*(w1)d;^(r0)", faults(12, 0, 1, 5, 1, 0), rows());
        run(check, 2, 1, "^(w1)d^(r1)", faults(5, 0, 0, 5, 1, 0), rows(2, 0, 0, 1, 2, 0, 1, 1));
    }

    private static void again(Check check) {
        MarchTests x = Check.marching(1, 1, "^(r0,r1)");
        x.fault(4, 0, 0);
        check.due("the latest read is 0 at first", 1, () -> x.run(0));
        check.failings("a first run", x, rows(0, 1, 0, 1));
        Check.read(x, "^(w1,r0)");
        check.due("in each run", 0, () -> x.run(0));
        check.due("what failed before is forgotten", 0, () -> x.failing(0, 4));
        MarchTests y = Check.marching(1, 1, "^(r0,w1)");
        check.due("all cells have 0", 0, () -> y.run(0));
        check.due("in each run", 0, () -> y.run(1));
    }

    private static void orders(Check check) {
        int[][] byBits = {{0}, {0, 1}, {0, 2, 1}, {0, 2, 1, 3}, {0, 4, 2, 1, 3}, {0, 8, 4, 2, 10, 6, 1, 9, 5, 3, 7}};
        for (int[] due : byBits) {
            MarchTests x = Check.marching(due.length, 1, "^(r1);v(r1)");
            for (int order = 0; order < 3; order++) {
                int o = order;
                check.due(due.length + " words: run(" + o + ")", 1, () -> x.run(o));
                for (int i = 0; i < due.length; i++) {
                    int place = i;
                    int last = 2 * due.length - 1;
                    int word = order == 0 ? i : order == 1 ? due[i] : due.length - 1 - i;
                    check.due("order " + o + ", place " + i + " up", word, () -> x.failing(place, 2));
                    check.due("order " + o + ", place " + i + " down", word, () -> x.failing(last - place, 2));
                }
            }
        }
        MarchTests x = new MarchTests(2, 1);
        check.state("no march before no order", () -> x.run(3));
        Check.read(x, "*(r1)");
        check.due("either is up", 1, () -> x.run(0));
        check.argument("order 3", () -> x.run(3));
        check.argument("order -1", () -> x.run(-1));
        check.argument("an order far away", () -> x.run(Integer.MIN_VALUE));
        check.failings("a run that throws forgets nothing", x, rows(0, 0, 0, 1, 0, 0, 1, 1));
        check.due("repair", 1, () -> x.repair(8, 8, 9));
        Check.read(x, "*(r0)");
        check.due("a run", 0, () -> x.run(0));
        check.due("repair stays as it was told", 1, () -> x.spare(0, 0));
        check.due("repair stays as it was told", 1, () -> x.fuse(2));
        check.due("repair stays as it was told", true, x::proved);
    }

    public static void main(String[] args) {
        Check check = new Check();
        ofOneCell(check);
        ofTwoCells(check);
        ofSeveralFaults(check);
        again(check);
        orders(check);
        check.finish();
    }
}

/** run, with what the memory and each kind of fault do in it. */
final class Promise05FaultsTest {
    private static int[][] faults(int... numbers) {
        return Check.faults(numbers);
    }

    private static int[][] rows(int... numbers) {
        return Check.rows(numbers);
    }

    private static void cellIsSet(Check check) {
        check.terms("A CELL IS SET to v: if it has that, nothing");
        check.run(2, 1, "^(w1);^(r1,w1)", faults(10, 1, 0), rows());
        check.run(2, 1, "^(w0);^(r0,w0)", faults(11, 1, 0), rows());
        check.terms("kind 10 (if v is 1) or 11 (if v is 0) with A that cell: V is the other one of what it is");
        check.run(2, 1, "^(w0);^(r0,w1)", faults(10, 1, 0), rows(1, 0, 1, 1));
        check.run(2, 1, "^(w1);^(r1,w0)", faults(10, 0, 1), rows(1, 0, 0, 1));
        check.run(2, 1, "^(w1);^(r1,w0)", faults(10, 1, 0), rows());
        check.run(2, 1, "^(w1);^(r1,w0)", faults(11, 1, 0), rows(1, 0, 1, 1));
        check.run(2, 1, "^(w0);^(r0,w1)", faults(11, 1, 0), rows());
        // Twice the other one is the same again; each fault counts.
        check.run(2, 1, "^(w0);^(r0,w1)", faults(10, 1, 0, 10, 1, 0), rows());
        check.run(3, 1, "^(w0);^(r0,w1)", faults(10, 1, 0, 10, 2, 0), rows(1, 0, 1, 1, 1, 0, 2, 1));
        check.terms("(and nothing more comes of that)");
        check.run(3, 1, "^(w0);^(r0,w1)", faults(10, 1, 0, 10, 2, 1), rows(1, 0, 1, 1));
        check.run(3, 1, "^(w0,w1);v(r1)", faults(10, 0, 2, 11, 1, 0), rows(1, 0, 0, 1));
        check.run(2, 1, "^(w0);^(r0,w1)", faults(10, 1, 0, 10, 0, 1), rows(1, 0, 1, 1));
    }

    private static void writing(Check check) {
        check.terms("TO WRITE v to a word's bits, from bit 0 on");
        check.run(1, 2, "^(w1,r1)", faults(10, 1, 0), rows());
        check.run(1, 2, "^(w1,r1)", faults(10, 0, 1), rows(0, 1, 0, 1));
        check.run(1, 4, "^(w1,r1)", faults(10, 2, 3), rows(0, 1, 0, 4));
        check.run(1, 4, "^(w1,r1)", faults(10, 3, 2), rows());
        check.terms("kind 0: x is 0;");
        check.run(2, 2, "^(w1,r1,w0,r0)", faults(0, 3, 0), rows(0, 1, 1, 2));
        // It never rises, not even for a moment: nothing is flipped by it.
        check.run(2, 1, "v(w1);^(r1)", faults(0, 0, 0, 10, 1, 0), rows(1, 0, 0, 1));
        check.terms("1: x is 1;");
        check.run(2, 2, "^(w1,r1,w0,r0)", faults(1, 0, 0), rows(0, 3, 0, 1));
        check.run(2, 1, "v(w0);^(r0)", faults(1, 0, 0, 11, 1, 0), rows(1, 0, 0, 1));
        check.terms("2: x is 0 if w is 0;");
        check.run(2, 2, "^(w1,r1,w0,r0)", faults(2, 1, 0), rows(0, 1, 0, 2));
        // If w is 1 (which a flip can make it), it stays 1 and can fall.
        check.run(2, 1, "^(w1,r1)", faults(2, 1, 0, 10, 1, 0), rows());
        check.run(2, 1, "^(w1);^(w0,r0)", faults(2, 1, 0, 10, 1, 0), rows());
        check.terms("3: x is 1 if w is 1;");
        check.run(2, 2, "^(w0,r0,w1,r1,w0,r0)", faults(3, 1, 0), rows(0, 5, 0, 2));
        check.run(1, 1, "^(w0,r0,w0,r0)", faults(3, 0, 0), rows());
        check.terms("4: x is w;");
        // The cell's own value is seen by a bridge: cell 0 reads 0 as long as cell 1 has 0.
        check.run(1, 2, "^(w1,r1)", faults(4, 1, 0, 13, 0, 1), rows(0, 1, 0, 3));
        check.run(1, 2, "^(w1,w0,w1,r0)", faults(4, 1, 0, 13, 0, 1), rows());
        // Flipped to 1 it keeps that, too: cell 2 is not pulled down.
        check.run(3, 1, "^(w1);^(r1)", faults(10, 1, 0, 4, 1, 0, 13, 2, 1), rows());
        check.run(3, 1, "^(w1,w0);^(w1);^(r1)", faults(11, 1, 0, 4, 1, 0, 13, 2, 1), rows());
        check.terms("9: x is the other one of w, if v is w");
        check.run(1, 2, "^(w1,r1,w1,r1,w1,r1)", faults(9, 0, 0), rows(0, 3, 0, 1));
        check.run(1, 1, "^(w0,r1)", faults(9, 0, 0), rows());
        check.run(1, 1, "^(w1,r1,w0,r0)", faults(9, 0, 0), rows());
        // What counts is the value that was told, not what other faults made of it.
        check.run(1, 1, "^(w1,r1)", faults(2, 0, 0, 9, 0, 0), rows(0, 1, 0, 1));
    }

    private static void reading(Check check) {
        check.terms("TO READ a word, from bit 0 on: x is what the cell has");
        check.run(2, 2, "^(r0,r1)", faults(), rows(0, 1, 0, 3, 0, 1, 1, 3));
        // Bit 0 flips behind its read, which flips bit 1 before its own; not the other way.
        check.run(1, 2, "^(r0)", faults(7, 0, 0, 10, 1, 0), rows(0, 0, 0, 2));
        check.run(1, 2, "^(r0)", faults(7, 1, 0, 10, 0, 1), rows());
        check.terms("4: x is what was read the latest time at that bit (of any word)");
        check.run(2, 1, "^(w1);^(r1)", faults(4, 1, 0), rows());
        check.run(3, 1, "^(w1);^(r1)", faults(4, 2, 0), rows());
        // The latest at bit 1 is 1 and at bit 0 it is 0, by ground 3.
        check.runOnGround(3, 2, 2, "^(w0);^(r0)", faults(4, 2, 0, 4, 3, 0), rows());
        check.runOnGround(3, 2, 2, "^(w0);v(r0)", faults(4, 2, 0, 4, 3, 0), rows(1, 0, 1, 2));
        check.terms("x is what is read (and was the latest at that bit");
        check.run(2, 1, "^(r0)", faults(8, 0, 0, 4, 1, 0), rows(0, 0, 0, 1, 0, 0, 1, 1));
        check.run(1, 1, "^(r1,r0,r1)", faults(4, 0, 0, 8, 0, 0), rows());
        check.terms("6: the cell is set to the other one of what it has, and x is that");
        check.run(1, 2, "^(w0,r0,r0,r0)", faults(6, 1, 0), rows(0, 1, 0, 2, 0, 3, 0, 2));
        check.run(2, 1, "^(r1)", faults(6, 0, 0, 10, 1, 0), rows());
        check.run(1, 1, "^(r0,r0)", faults(6, 0, 0, 6, 0, 0), rows());
        check.terms("7: the cell is set likewise, x stays");
        check.run(1, 2, "^(w0,r0,r0,r0)", faults(7, 1, 0), rows(0, 2, 0, 2));
        check.run(2, 1, "^(r0)", faults(7, 0, 0, 10, 1, 0), rows(0, 0, 1, 1));
        check.run(1, 1, "^(r1)", faults(6, 0, 0, 7, 0, 0), rows());
        check.run(1, 1, "^(r0)", faults(7, 0, 0, 6, 0, 0), rows());
        check.terms("8: x is the other one of x");
        check.run(1, 2, "^(w0,r0,w1,r1)", faults(8, 0, 0), rows(0, 1, 0, 1, 0, 3, 0, 1));
        check.run(1, 1, "^(r0,w1,r1)", faults(8, 0, 0, 8, 0, 0), rows());
    }

    private static void bridges(Check check) {
        check.terms("for each of kind 13 with V or A that cell, in its turn: x is 0 if the other of the two cells has 0");
        check.run(2, 1, "^(w0);^(w1,r1)", faults(13, 0, 1), rows(1, 1, 0, 1));
        check.run(2, 1, "^(w0);^(w1,r1)", faults(13, 1, 0), rows(1, 1, 0, 1));
        check.run(2, 1, "^(w0);v(w1,r1)", faults(13, 0, 1), rows(1, 1, 1, 1));
        check.run(2, 1, "^(w0);v(w1,r1)", faults(13, 1, 0), rows(1, 1, 1, 1));
        check.run(2, 1, "^(w1);^(w0,r0)", faults(13, 0, 1), rows());
        check.run(2, 1, "^(w1);^(r1)", faults(13, 0, 1), rows());
        // In its turn: before the read is turned round, or behind that.
        check.run(1, 2, "^(w1,r1)", faults(13, 0, 1, 8, 0, 0), rows(0, 1, 0, 1));
        check.run(1, 2, "^(w0,r0)", faults(13, 0, 1, 8, 0, 0), rows(0, 1, 0, 1));
        check.run(1, 2, "^(w0,r0)", faults(8, 0, 0, 13, 0, 1), rows());
        check.run(1, 2, "^(w0,r0)", faults(8, 0, 0, 13, 1, 0), rows());
    }

    private static void inOrder(Check check) {
        check.terms("At most 4, in order.");
        check.run(1, 1, "^(w1,r1)", faults(0, 0, 0, 1, 0, 0), rows());
        check.run(1, 1, "^(w1,r1)", faults(1, 0, 0, 0, 0, 0), rows(0, 1, 0, 1));
        check.run(1, 1, "^(r1)", faults(8, 0, 0, 4, 0, 0), rows(0, 0, 0, 1));
        check.run(1, 1, "^(r1)", faults(4, 0, 0, 8, 0, 0), rows());
        check.run(1, 1, "^(w0,r0)", faults(2, 0, 0, 9, 0, 0), rows(0, 1, 0, 1));
        check.run(1, 1, "^(w0,r0)", faults(9, 0, 0, 2, 0, 0), rows());
        check.run(1, 1, "^(w1,w1,r1)", faults(3, 0, 0, 9, 0, 0), rows(0, 2, 0, 1));
        check.run(1, 1, "^(w1,w1,r1)", faults(9, 0, 0, 3, 0, 0), rows());
        // The fourth is the last to strike.
        check.run(1, 1, "^(w1,r1)", faults(1, 0, 0, 1, 0, 0, 1, 0, 0, 0, 0, 0), rows(0, 1, 0, 1));
        check.run(1, 1, "^(w1,r1)", faults(0, 0, 0, 0, 0, 0, 0, 0, 0, 1, 0, 0), rows());
    }

    private static void behindEachWord(Check check) {
        check.terms("Behind each word that was written or read, and each PAUSE, for each fault");
        // Behind a word that was written, when all its bits are.
        check.run(1, 2, "^(w1,r1)", faults(12, 0, 1), rows(0, 1, 0, 1));
        check.run(1, 2, "^(w1,r1)", faults(12, 1, 0), rows(0, 1, 0, 2));
        check.runOnGround(3, 1, 2, "^(w0,w1,r1)", faults(12, 0, 1), rows());
        // Behind a word that was read, when all its bits are.
        check.runOnGround(3, 1, 2, "^(w0,r0)", faults(7, 0, 0, 12, 1, 0), rows());
        check.runOnGround(3, 1, 2, "^(w0,r0,r0)", faults(7, 0, 0, 12, 1, 0), rows(0, 2, 0, 3));
        // Behind a word that was read: its read sets cell 0, which clears cell 1.
        check.runOnGround(2, 2, 1, "^(w0);^(r0)", faults(12, 1, 0, 7, 0, 0), rows(1, 0, 1, 1));
        check.run(2, 1, "^(r0)", faults(7, 0, 0, 10, 1, 0, 12, 1, 0), rows());
        // Behind a pause: the cell that faded is stuck again.
        check.run(1, 1, "d^(r1)", faults(5, 0, 0, 1, 0, 0), rows());
        check.run(1, 1, "d^(r1)", faults(1, 0, 0, 5, 0, 0), rows());
        // Cell 1 is 0 for a moment behind the write, and 1 again before the pause, which clears cell 0.
        check.run(1, 3, "^(w1,r1)", faults(12, 0, 1, 1, 1, 0, 10, 1, 2), rows());
        check.run(1, 3, "^(w1)d^(r1)", faults(12, 0, 1, 1, 1, 0, 10, 1, 2), rows(2, 0, 0, 1));
        check.terms("kind 12: V has 0 if A has 1");
        check.run(2, 1, "^(w1);^(r1)", faults(12, 0, 1), rows(1, 0, 0, 1));
        check.run(2, 1, "^(w0);^(r0)", faults(12, 0, 1), rows());
        check.run(2, 1, "v(w0);v(w1,r1)", faults(12, 1, 0), rows());
        // It has 0, but is not set: nothing is flipped by its fall.
        check.run(3, 1, "v(w1);^(r1)", faults(12, 0, 1, 11, 2, 0), rows(1, 0, 0, 1));
        check.terms("0: V has 0; 1: V has 1");
        check.run(2, 1, "^(r0,r0)", faults(7, 0, 0, 0, 0, 0), rows());
        check.run(2, 1, "v(w0);^(r0)", faults(0, 0, 0, 7, 0, 0, 11, 1, 0), rows());
        check.run(1, 1, "^(r1,r1)", faults(7, 0, 0, 1, 0, 0), rows());
        check.run(2, 1, "v(w1);^(r1)", faults(1, 0, 0, 7, 0, 0, 10, 1, 0), rows());
        // By the order of the faults, once each time.
        check.run(2, 1, "^(r0)", faults(1, 1, 0, 12, 0, 1), rows(0, 0, 1, 1));
        check.run(3, 1, "^(w1,r1)", faults(12, 0, 1, 1, 1, 0), rows(0, 1, 0, 1));
        check.run(2, 1, "^(r1)", faults(12, 0, 1, 1, 0, 0, 1, 1, 0), rows());
    }

    private static void inAPause(Check check) {
        check.terms("In a PAUSE, for each fault of kind 5: V has 0.");
        check.run(1, 2, "^(w1,r1);d^(r1,w1,r1)", faults(5, 0, 0), rows(2, 0, 0, 1));
        check.run(2, 1, "^(w1)d^(r1)", faults(5, 0, 0, 5, 1, 0), rows(2, 0, 0, 1, 2, 0, 1, 1));
        check.run(2, 1, "^(w1,r1);^(r1)", faults(5, 0, 0), rows());
        check.run(1, 1, "d^(r0)d", faults(5, 0, 0), rows());
        // It has 0, but is not set: nothing is flipped by its fall.
        check.run(2, 1, "^(w1)d^(r1)", faults(5, 0, 0, 11, 1, 0), rows(2, 0, 0, 1));
        // It fades before what comes behind the pause is looked at.
        check.run(2, 1, "*(w1)d;^(r0)", faults(12, 0, 1, 5, 1, 0), rows());
        check.run(1, 3, "^(w1)d^(r1)", faults(12, 0, 1, 1, 1, 0, 10, 1, 2, 5, 1, 0), rows());
    }

    private static void atFirst(Check check) {
        check.terms("0 at first in each run");
        MarchTests x = Check.marching(1, 1, "^(r0,r1)");
        x.fault(4, 0, 0);
        check.due("a first run", 1, () -> x.run(0));
        check.failings("a first run", x, rows(0, 1, 0, 1));
        MarchTests y = Check.marching(2, 1, "v(r0);^(w1);v(r0);^(r1)");
        y.fault(4, 1, 0);
        check.due("a first run", 1, () -> y.run(0));
        check.failings("a first run", y, rows(2, 0, 0, 1));
        check.due("a second run", 1, () -> y.run(0));
        check.failings("a second run", y, rows(2, 0, 0, 1));
        check.terms("TO RUN a march: all cells have 0, then kinds 0 and 1, 12 as behind a word");
        MarchTests z = Check.marching(1, 4, "^(r0,w1)");
        check.due("all cells have 0", 0, () -> z.run(0));
        check.due("in each run", 0, () -> z.run(1));
        z.ground(2);
        check.due("whatever the ground", 0, () -> z.run(1));
        z.ground(3);
        check.due("0 is not the ground's", 1, () -> z.run(1));
        check.run(2, 2, "^(r0)", faults(1, 2, 0), rows(0, 0, 1, 1));
        check.run(1, 1, "^(r0)", faults(0, 0, 0), rows());
        check.run(2, 1, "^(r0)", faults(1, 0, 0, 10, 1, 0), rows(0, 0, 0, 1));
        check.run(2, 1, "^(r0)", faults(1, 0, 0, 1, 1, 0, 12, 0, 1), rows(0, 0, 1, 1));
        check.run(2, 1, "^(r0)", faults(1, 0, 0, 1, 1, 0), rows(0, 0, 0, 1, 0, 0, 1, 1));
    }

    public static void main(String[] args) {
        Check check = new Check("promise 5 (run)");
        check.hold(Promise05FaultsTest::cellIsSet);
        check.hold(Promise05FaultsTest::writing);
        check.hold(Promise05FaultsTest::reading);
        check.hold(Promise05FaultsTest::bridges);
        check.hold(Promise05FaultsTest::inOrder);
        check.hold(Promise05FaultsTest::behindEachWord);
        check.hold(Promise05FaultsTest::inAPause);
        check.hold(Promise05FaultsTest::atFirst);
        check.finish();
    }
}

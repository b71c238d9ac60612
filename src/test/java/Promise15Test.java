/** ground: which value is 0 in each bit. */
final class Promise15Test {
    /** All cells have 0 before the march: what r0 and r1 find wrong tells the ground. */
    private static void ground(Check check, int kind, int... want) {
        MarchTests x = Check.marching(4, 4, "^(r0,r1)");
        check.due("ground(" + kind + ")", kind != 0, () -> x.ground(kind));
        check.due("ground(" + kind + ") again", false, () -> x.ground(kind));
        x.run(0);
        int k = 0;
        for (int word = 0; word < 4; word++) {
            for (int value = 0; value < 2; value++) {
                int wrong = value == 0 ? want[word] : 15 - want[word];
                if (wrong != 0) {
                    int row = k;
                    check.due("ground " + kind + ", word " + word + ", r" + value, wrong, () -> x.failing(row, 3));
                    check.due("ground " + kind + ": its word", word, () -> x.failing(row, 2));
                    k++;
                }
            }
        }
        Check.read(x, "^(w0,r0,w1,r1)v(r1,w0,r0)");
        check.due("ground " + kind + " in a sound memory", 0, () -> x.run(0));
    }

    public static void main(String[] args) {
        Check check = new Check();
        ground(check, 0, 0, 0, 0, 0);
        ground(check, 1, 10, 5, 10, 5);
        ground(check, 2, 0, 15, 0, 15);
        ground(check, 3, 10, 10, 10, 10);
        MarchTests x = Check.marching(2, 1, "^(w0,r0)");
        x.fault(0, 1, 0);
        check.due("stuck at 0 on ground 0", 0, () -> x.run(0));
        check.due("another one", true, () -> x.ground(2));
        check.due("stuck at 0 on ground 2", 1, () -> x.run(0));
        check.argument("ground 4", () -> x.ground(4));
        check.argument("ground -1", () -> x.ground(-1));
        check.argument("a ground far away", () -> x.ground(Integer.MIN_VALUE));
        check.due("what throws changes nothing", false, () -> x.ground(2));
        x.scramble(0, 1);
        check.due("the word's number, not the place's", 1, () -> x.run(0));
        check.due("back", true, () -> x.ground(0));
        check.due("stuck at 0 on ground 0", 0, () -> x.run(0));
        check.finish();
    }
}

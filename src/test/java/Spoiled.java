/** Objects of which chosen bits fail. */
final class Spoiled {
    private static final String MARCH = "^(r0)";

    private Spoiled() {
    }

    /** Up to four bits, each told as word times ten and bit, fail in a run. */
    static MarchTests memory(int words, int bits, int... places) {
        MarchTests x = Check.marching(words, bits, MARCH);
        for (int place : places) {
            x.fault(8, place / 10 * bits + place % 10, 0);
        }
        x.run(0);
        return x;
    }

    /** All bits of all words fail. */
    static MarchTests wholly(int words, int bits) {
        MarchTests x = Check.marching(words, bits, "^(r1)");
        x.run(0);
        return x;
    }

    /** The spares of the latest repair, as r and c with their numbers. */
    static String spares(MarchTests x, int count) {
        StringBuilder text = new StringBuilder();
        for (int k = 0; k < count; k++) {
            text.append(x.spare(k, 0) == 0 ? "r" : "c").append(x.spare(k, 1));
        }
        return text.toString();
    }
}

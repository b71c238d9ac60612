/** What the tests share: counting wrong answers, and telling texts to an object. */
final class Check {
    private int wrong;
    private int checked;

    interface Call {
        Object answer();
    }

    /** The answer of a call, or the simple name of what it threw. */
    static String told(Call call) {
        try {
            return String.valueOf(call.answer());
        } catch (RuntimeException e) {
            return e.getClass().getSimpleName();
        }
    }

    void due(String what, Object want, Call call) {
        String got = told(call);
        checked++;
        if (!got.equals(String.valueOf(want))) {
            wrong++;
            System.out.println(what + " answered " + got + ", due is " + want);
        }
    }

    void index(String what, Call call) {
        due(what, "IndexOutOfBoundsException", call);
    }

    void state(String what, Call call) {
        due(what, "IllegalStateException", call);
    }

    void argument(String what, Call call) {
        due(what, "IllegalArgumentException", call);
    }

    void failings(String what, MarchTests x, int[][] want) {
        due(what + ": failing(0, 4)", want.length, () -> x.failing(0, 4));
        for (int k = 0; k < want.length; k++) {
            for (int part = 0; part < 4; part++) {
                int row = k;
                int column = part;
                due(what + ": failing(" + k + ", " + part + ")", want[k][part], () -> x.failing(row, column));
            }
        }
    }

    static void tell(MarchTests x, String text) {
        for (int i = 0; i < text.length(); i++) {
            x.unit(text.charAt(i));
        }
    }

    static int read(MarchTests x, String text) {
        tell(x, text);
        return x.read();
    }

    /** A new object with a march that has no fault. */
    static MarchTests marching(int words, int bits, String text) {
        MarchTests x = new MarchTests(words, bits);
        if (read(x, text) <= 0) {
            throw new AssertionError("not a text: " + text);
        }
        return x;
    }

    void finish() {
        System.out.println(checked + " answers looked at, " + wrong + " wrong");
        if (wrong != 0) {
            System.exit(1);
        }
    }
}

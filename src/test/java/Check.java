/** What the tests share: the sentence that is held, counting wrong answers, and telling texts to an object. */
final class Check {
    private final String about;
    private String sentence = "";
    private int sentences;
    private int wrong;
    private int checked;

    interface Call {
        Object answer();
    }

    interface Test {
        void hold(Check check);
    }

    Check(String about) {
        this.about = about;
    }

    /** One test of several: what it throws is wrong, but does not keep the next ones from being looked at. */
    void hold(Test test) {
        sentence = "";
        try {
            test.hold(this);
        } catch (RuntimeException | AssertionError e) {
            wrong++;
            System.out.println(about + sentence + ": a call before the next one that is looked at answered " + e);
        }
    }

    /** From here on, answers are held against these words of the document's part that the test is about. */
    void sentence(String words) {
        sentence = ", \"" + words + "\"";
        sentences++;
    }

    /** From here on, answers are held against these words of the document's part Terms. */
    void terms(String words) {
        sentence = ", Terms, \"" + words + "\"";
        sentences++;
    }

    /** The answer of a call, or the simple name of what it threw. */
    static String told(Call call) {
        try {
            return String.valueOf(call.answer());
        } catch (RuntimeException e) {
            return e.getClass().getSimpleName();
        }
    }

    void due(String what, Object want, Call call) {
        String got = told(call);
        checked++;
        if (!got.equals(String.valueOf(want))) {
            wrong++;
            System.out.println(about + sentence + ": " + what + " answered " + got + ", due is " + want);
        }
    }

    void index(String what, Call call) {
        due(what, "IndexOutOfBoundsException", call);
    }

    void state(String what, Call call) {
        due(what, "IllegalStateException", call);
    }

    void argument(String what, Call call) {
        due(what, "IllegalArgumentException", call);
    }

    void failings(String what, MarchTests x, int[][] want) {
        due(what + ": failing(0, 4)", want.length, () -> x.failing(0, 4));
        for (int k = 0; k < want.length; k++) {
            for (int part = 0; part < 4; part++) {
                int row = k;
                int column = part;
                due(what + ": failing(" + k + ", " + part + ")", want[k][part], () -> x.failing(row, column));
            }
        }
    }

    static void tell(MarchTests x, String text) {
        for (int i = 0; i < text.length(); i++) {
            x.unit(text.charAt(i));
        }
    }

    static int read(MarchTests x, String text) {
        tell(x, text);
        return x.read();
    }

    /** A new object with a march that has no fault. */
    static MarchTests marching(int words, int bits, String text) {
        MarchTests x = new MarchTests(words, bits);
        if (read(x, text) <= 0) {
            throw new AssertionError("not a text: " + text);
        }
        return x;
    }

    /** Failing operations, each told as its element, its number there, its word and its bits. */
    static int[][] rows(int... numbers) {
        return inParts(numbers, 4);
    }

    /** Faults, each told as its kind, its cell and the other one. */
    static int[][] faults(int... numbers) {
        return inParts(numbers, 3);
    }

    private static int[][] inParts(int[] numbers, int size) {
        int[][] parts = new int[numbers.length / size][];
        for (int i = 0; i < parts.length; i++) {
            parts[i] = java.util.Arrays.copyOfRange(numbers, size * i, size * (i + 1));
        }
        return parts;
    }

    /** A march on a new memory with these faults, by order 0: which operations fail. */
    void run(int words, int bits, String text, int[][] faults, int[][] want) {
        runOnGround(0, words, bits, text, faults, want);
    }

    void runOnGround(int ground, int words, int bits, String text, int[][] faults, int[][] want) {
        MarchTests x = marching(words, bits, text);
        StringBuilder name = new StringBuilder(words + " words of " + bits + ", " + text + ", ground " + ground);
        x.ground(ground);
        for (int[] f : faults) {
            x.fault(f[0], f[1], f[2]);
            name.append(" with ").append(f[0]).append(' ').append(f[1]).append(' ').append(f[2]);
        }
        due(name + ": run(0)", want.length > 0 ? 1 : 0, () -> x.run(0));
        failings(name.toString(), x, want);
    }

    void finish() {
        System.out.println(sentences + " sentences, " + checked + " answers looked at, " + wrong + " wrong");
        if (wrong != 0) {
            System.exit(1);
        }
    }
}

/** read: the tape as a text; how many elements, or -1 less the place of its fault. */
final class Promise03Test {
    private static final String EIGHT = "r0,w1,r1,w0,r0,w1,r1,w0";

    private static void text(Check check, String text, int want) {
        check.due("the text " + text, want, () -> Check.read(new MarchTests(2, 2), text));
    }

    private static void fault(Check check, String text, int place) {
        text(check, text, -1 - place);
    }

    private static void goodTexts(Check check) {
        text(check, "d", 1);
        text(check, "^(w0)", 1);
        text(check, "v(r1)", 1);
        text(check, "*(r0,w1)", 1);
        text(check, "*(w0);^(r0,w1);v(r1,w0);*(r0)", 4);
        text(check, "*(w0)^(r0,w1)d v(r1,w0)", 4);
        text(check, "dd;d", 3);
        text(check, "\t\n\r ^ \t( \n w \r 0 , r\t1 ) ; d \n", 2);
        text(check, "^(" + EIGHT + ")", 1);
        text(check, "^(" + EIGHT + ");v(" + EIGHT + ")", 2);
        text(check, "d".repeat(16), 16);
        text(check, "d;".repeat(15) + "d", 16);
        text(check, ("^(" + EIGHT + ")").repeat(14), 14);
        text(check, "^(w1)".repeat(16), 16);
    }

    private static void badBytes(Check check) {
        fault(check, "w0", 0);
        fault(check, "D", 0);
        fault(check, "(w0)", 0);
        fault(check, "^w0", 1);
        fault(check, "^^(w0)", 1);
        fault(check, "^()", 2);
        fault(check, "^(d)", 2);
        fault(check, "^(W0)", 2);
        fault(check, "^(w2)", 3);
        fault(check, "^(w)", 3);
        fault(check, "^(ww0)", 3);
        fault(check, "^(w0;r0)", 4);
        fault(check, "^(w0 r0)", 5);
        fault(check, "^(w00)", 4);
        fault(check, "^(w0,)", 5);
        fault(check, "^(w0,,r0)", 5);
        fault(check, "^(w0))", 5);
        fault(check, "^(w0),d", 5);
        fault(check, "d(w0)", 1);
        fault(check, ";d", 0);
        fault(check, "d;;d", 2);
        fault(check, "d; ;d", 3);
        fault(check, "d\u000bd", 1);
        fault(check, "d\u0000", 1);
        fault(check, "d\u00a0", 1);
    }

    private static void badEnds(Check check) {
        fault(check, "", 0);
        fault(check, "  ", 2);
        fault(check, "^", 1);
        fault(check, "^(", 2);
        fault(check, "^(w", 3);
        fault(check, "^(w0", 4);
        fault(check, "^(w0 ", 5);
        fault(check, "^(w0,", 5);
        fault(check, "^(w0)v", 6);
        fault(check, "d;", 2);
        fault(check, "d ; ", 4);
    }

    private static void tooMany(Check check) {
        fault(check, "d".repeat(17), 16);
        fault(check, "d".repeat(16) + "^(w0)", 16);
        fault(check, "d".repeat(16) + " ; v(w0)", 19);
        fault(check, "d".repeat(16) + ";", 17);
        fault(check, "^(" + EIGHT + ",w0)", 26);
        fault(check, "^(" + EIGHT + ", r0)", 27);
        fault(check, "^(" + EIGHT + ",)", 26);
        fault(check, "^(" + EIGHT + ",", 26);
        fault(check, "d^(" + EIGHT + ")v(" + EIGHT + ",w0)", 53);
    }

    private static void before(Check check) {
        MarchTests x = new MarchTests(2, 2);
        check.due("a first march", 1, () -> Check.read(x, "^(w1,r1)"));
        check.due("a fault", -6, () -> Check.read(x, "v(r0)("));
        check.due("the march before stays", 4, () -> x.machine(0));
        check.due("the march before stays", 14, () -> x.machine(1));
        check.due("the tape is empty", -1, x::read);
        check.due("it runs", 0, () -> x.run(0));
        check.due("another march", 2, () -> Check.read(x, "dd"));
        check.due("another march", 24, () -> x.machine(1));
        check.due("the tape is empty again", -1, x::read);
        check.due("and stays", 24, () -> x.machine(1));
        MarchTests y = new MarchTests(2, 2);
        check.due("a fault at first", -5, () -> Check.read(y, "^(w0"));
        check.state("no march yet", () -> y.run(0));
        check.state("no march yet", () -> y.machine(0));
    }

    public static void main(String[] args) {
        Check check = new Check();
        goodTexts(check);
        badBytes(check);
        badEnds(check);
        tooMany(check);
        before(check);
        check.finish();
    }
}

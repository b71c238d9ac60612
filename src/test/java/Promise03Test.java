/** read: the tape as a text; how many elements, or -1 less the place of its fault. */
final class Promise03Test {
    private static final String EIGHT = "r0,w1,r1,w0,r0,w1,r1,w0";

    private static String shown(String text) {
        StringBuilder shown = new StringBuilder();
        for (char c : text.toCharArray()) {
            shown.append(c >= 32 && c < 127 ? "" + c : "<" + (int) c + ">");
        }
        return shown.toString();
    }

    private static void text(Check check, String text, int want) {
        check.due("the text " + shown(text), want, () -> Check.read(new MarchTests(2, 2), text));
    }

    private static void fault(Check check, String text, int place) {
        text(check, text, -1 - place);
    }

    private static void elements(Check check) {
        check.sentence("how many elements it has");
        text(check, "d", 1);
        text(check, "^(w0)", 1);
        text(check, "*(w0);^(r0,w1);v(r1,w0);*(r0)", 4);
        text(check, ("^(" + EIGHT + ")").repeat(15), 15);
        check.terms("ELEMENTS: ^ (up), v (down) or * (either: up), ( , OPERATIONS (one at least) with , between, and )");
        text(check, "^(r0)", 1);
        text(check, "v(r1)", 1);
        text(check, "*(r0,w1)", 1);
        fault(check, "^w0", 1);
        fault(check, "^^(w0)", 1);
        fault(check, "(w0)", 0);
        fault(check, "V(w0)", 0);
        fault(check, "^(w0 r0)", 5);
        fault(check, "^(w0;r0)", 4);
        fault(check, "^(w0))", 5);
        fault(check, "^(w0),d", 5);
        check.terms("or d, a PAUSE");
        text(check, "dd;d", 3);
        text(check, "*(w0)^(r0,w1)d v(r1,w0)", 4);
        fault(check, "D", 0);
        fault(check, "d(w0)", 1);
        fault(check, "^d", 1);
        fault(check, "^(d)", 2);
        check.terms("An operation: w or r, and 0 or 1");
        text(check, "^(w0,w1,r0,r1)", 1);
        fault(check, "w0", 0);
        fault(check, "^(W0)", 2);
        fault(check, "^(0)", 2);
        fault(check, "^(w)", 3);
        fault(check, "^(w2)", 3);
        fault(check, "^(w/)", 3);
        fault(check, "^(ww0)", 3);
        fault(check, "^(w00)", 4);
    }

    private static void oneOperationAtLeast(Check check) {
        check.terms("OPERATIONS (one at least)");
        text(check, "v(w0)", 1);
        fault(check, "^()", 2);
        fault(check, "^( )", 3);
        fault(check, "^(w0,)", 5);
        fault(check, "^(,w0)", 2);
        fault(check, "^(w0,,r0)", 5);
    }

    private static void oneSemicolon(Check check) {
        check.terms("Between two elements there may be one ;");
        text(check, "d;d", 2);
        text(check, "d d", 2);
        text(check, "^(w0) ; d", 2);
        fault(check, "d;;d", 2);
        fault(check, "d; ;d", 3);
        fault(check, ";d", 0);
        fault(check, " ;d", 1);
        fault(check, ";", 0);
        fault(check, "^;(w0)", 1);
    }

    private static void elementBehindSemicolon(Check check) {
        check.terms("(behind it an element must come)");
        fault(check, "d;", 2);
        fault(check, "d ; ", 4);
        fault(check, "^(w0);", 6);
        fault(check, "d;)", 2);
        fault(check, "d".repeat(16) + ";", 17);
    }

    private static void blanks(Check check) {
        check.terms("blanks (9, 10, 13, 32) anywhere between these bytes");
        String bytes = "^(w0,r1);d";
        for (char blank : new char[] {9, 10, 13, 32}) {
            for (int i = 0; i <= bytes.length(); i++) {
                text(check, bytes.substring(0, i) + blank + bytes.substring(i), 2);
            }
        }
        text(check, "\t\n\r ^ \t( \n w \r 0 , r\t1 ) ; d \n", 2);
        for (char other : new char[] {0, 1, 8, 11, 12, 14, 31, 33, 127, 128, 133, 160, 255}) {
            fault(check, other + "d", 0);
            fault(check, "d" + other, 1);
            fault(check, "^(w" + other + "0)", 3);
        }
    }

    private static void oneElementAtLeast(Check check) {
        check.terms("One element at least");
        fault(check, "", 0);
        fault(check, " ", 1);
        fault(check, " \t\r\n ", 5);
        fault(check, " ".repeat(400), 400);
    }

    private static void sixteenElements(Check check) {
        check.terms("at most 16");
        text(check, "d".repeat(15), 15);
        text(check, "d".repeat(16), 16);
        text(check, "d;".repeat(15) + "d", 16);
        text(check, "d".repeat(16) + " ", 16);
        text(check, "^(w1)".repeat(16), 16);
        check.terms("the 17th element's");
        fault(check, "d".repeat(17), 16);
        fault(check, "d".repeat(16) + "^(w0)", 16);
        fault(check, "^(w1)".repeat(17), 80);
        fault(check, "d".repeat(16) + " \n d", 19);
        fault(check, "d".repeat(16) + " ; v(w0)", 19);
        fault(check, "d".repeat(16) + ";;", 17);
        fault(check, "d".repeat(16) + "x", 16);
    }

    private static void eightOperations(Check check) {
        check.terms("and 8 operations in each");
        text(check, "^(r0,w1,r1,w0,r0,w1,r1)", 1);
        text(check, "^(" + EIGHT + ")", 1);
        text(check, "^(" + EIGHT + ");v(" + EIGHT + ")", 2);
        check.terms("the 9th operation's first byte");
        fault(check, "^(" + EIGHT + ",w0)", 26);
        fault(check, "^(" + EIGHT + ", r0)", 27);
        fault(check, "^(" + EIGHT + ",)", 26);
        fault(check, "^(" + EIGHT + ",x", 26);
        fault(check, "^(" + EIGHT + " w0)", 26);
        fault(check, "d^(" + EIGHT + ")v(" + EIGHT + ",w0)", 53);
    }

    private static void placeOfTheFault(Check check) {
        check.terms("the place of the first byte that cannot stand there");
        check.due("the first place", -1, () -> Check.read(new MarchTests(1, 1), "x"));
        check.due("the second place", -2, () -> Check.read(new MarchTests(1, 1), "dx"));
        check.due("the last place there is", -400,
            () -> Check.read(new MarchTests(1, 1), " ".repeat(398) + "dx"));
        check.due("the first of two", -3, () -> Check.read(new MarchTests(1, 1), "^(x)y"));
        check.due("blanks count", -4, () -> Check.read(new MarchTests(1, 1), "d\n\tx"));
        check.terms("(or the end;");
        fault(check, "^", 1);
        fault(check, "^(", 2);
        fault(check, "^(w", 3);
        fault(check, "^(w0", 4);
        fault(check, "^(w0 ", 5);
        fault(check, "^(w0,", 5);
        fault(check, "^(w0)v", 6);
        fault(check, "^(" + EIGHT + ",", 26);
        fault(check, " ".repeat(399) + "^", 400);
    }

    private static void emptyThen(Check check) {
        check.sentence("The tape (which is empty then) is a text");
        MarchTests x = new MarchTests(2, 2);
        check.due("a text", 2, () -> Check.read(x, "dd"));
        check.due("nothing is left of it", -1, x::read);
        check.due("a text with a fault", -6, () -> Check.read(x, "v(r0)(d"));
        check.due("nothing is left of it", -1, x::read);
        check.due("a text that ends too early", -2, () -> Check.read(x, "^"));
        check.due("it does not go on", -1, () -> Check.read(x, "(w0)"));
    }

    private static void marchBefore(Check check) {
        check.sentence("-1 less the place of its fault, and the march before stays");
        for (String faulty : new String[] {"", " ", "x", "v(r0)(", "d;", "^(w0", "d".repeat(17), "^(" + EIGHT + ",w0)"}) {
            MarchTests x = Check.marching(2, 2, "^(w1,r1)");
            check.due("a fault: " + faulty, true, () -> Check.read(x, faulty) < 0);
            check.due("its first row", 4, () -> x.machine(0));
            check.due("its last row", 14, () -> x.machine(1));
            check.index("no row more", () -> x.machine(2));
            check.due("it runs", 0, () -> x.run(0));
            check.due("another march", 2, () -> Check.read(x, "dd"));
            check.due("its last row", 24, () -> x.machine(1));
        }
    }

    private static void noMarchBefore(Check check) {
        check.terms("IllegalStateException: no march was read");
        MarchTests x = new MarchTests(2, 2);
        check.due("a text with a fault behind a whole element", -7, () -> Check.read(x, "^(w0)d("));
        check.state("run", () -> x.run(0));
        check.state("machine", () -> x.machine(0));
        check.state("covered", () -> x.covered(0, 1));
    }

    public static void main(String[] args) {
        Check check = new Check("promise 3 (read)");
        check.hold(Promise03Test::elements);
        check.hold(Promise03Test::oneOperationAtLeast);
        check.hold(Promise03Test::oneSemicolon);
        check.hold(Promise03Test::elementBehindSemicolon);
        check.hold(Promise03Test::blanks);
        check.hold(Promise03Test::oneElementAtLeast);
        check.hold(Promise03Test::sixteenElements);
        check.hold(Promise03Test::eightOperations);
        check.hold(Promise03Test::placeOfTheFault);
        check.hold(Promise03Test::emptyThen);
        check.hold(Promise03Test::marchBefore);
        check.hold(Promise03Test::noMarchBefore);
        check.finish();
    }
}

/** Two objects of one past: a call that throws is made on one of them, and both must answer alike from then on. */
final class Twin {
    /** The rows of a used object's march. */
    private static final int USED_ROWS = 4;

    private Twin() {
    }

    interface Use {
        Object on(MarchTests x);
    }

    /** Nothing here is as in a new object: the tape, the march, faults, failings, repair, ground, ports, scrambled. */
    static MarchTests used() {
        MarchTests x = Check.marching(4, 2, "^(w0)d;v(r0,w1)");
        x.fault(5, 1, 0);
        x.fault(10, 4, 3);
        x.fault(8, 6, 0);
        x.scramble(0, 3);
        x.ground(3);
        x.port(2);
        x.run(1);
        x.repair(1, 1, 9);
        Check.tell(x, "v(r1,w1)");
        return x;
    }

    /** The same, with no room for one more fault. */
    static MarchTests full() {
        MarchTests x = used();
        x.fault(3, 2, 0);
        return x;
    }

    /** No march was read; the rest is as it can be then. */
    static MarchTests withoutMarch() {
        MarchTests x = new MarchTests(4, 2);
        x.fault(1, 1, 0);
        x.scramble(1, 2);
        x.ground(2);
        x.port(2);
        x.repair(1, 1, 1);
        Check.tell(x, "v(r1,w1)");
        return x;
    }

    /**
     * All that can be seen of an object with a march of so many rows; much of it only by changing it, so it is no use
     * behind this. Only the last call can throw, since a throw that changes something would change both twins alike.
     */
    private static String seen(MarchTests x, int rows) {
        StringBuilder text = new StringBuilder();
        seeRepair(text, x);
        seeFailings(text, x);
        seeRows(text, x, rows);
        if (rows > 0) {
            seeRuns(text, x);
        }
        text.append(" tape ").append(Check.read(x, ";d^(r1,w0);v(r0,w1);^(r1)"));
        seeRows(text, x, 8);
        seeRuns(text, x);
        text.append(" ground ").append(x.ground(3)).append(x.ground(2));
        text.append(" ports ").append(x.port(1));
        text.append(" faults ").append(Check.told(() -> x.fault(0, 0, 0)));
        return text.toString();
    }

    private static void seeRepair(StringBuilder text, MarchTests x) {
        text.append(" proved ").append(x.proved()).append(" fuses");
        int spares = 0;
        for (int i = 0; i < 6; i++) {
            text.append(' ').append(x.fuse(i));
            spares += x.fuse(i);
        }
        text.append(" spares ").append(Spoiled.spares(x, spares));
    }

    private static void seeFailings(StringBuilder text, MarchTests x) {
        int count = x.failing(0, 4);
        text.append(" failing ").append(count);
        for (int k = 0; k < Math.min(count, 9); k++) {
            for (int what = 0; what < 4; what++) {
                text.append(' ').append(x.failing(k, what));
            }
        }
    }

    private static void seeRows(StringBuilder text, MarchTests x, int rows) {
        text.append(" rows");
        for (int i = 0; i < rows; i++) {
            text.append(' ').append(x.machine(i));
        }
    }

    private static void seeRuns(StringBuilder text, MarchTests x) {
        for (int order = 0; order < 3; order++) {
            text.append(" run ").append(x.run(order));
            seeFailings(text, x);
        }
    }

    /** What is due of a used object, and of a full one, that nothing has been done to. */
    static void isAsUsed(Check check, String name, MarchTests x) {
        check.due(name, seen(used(), USED_ROWS), () -> seen(x, USED_ROWS));
    }

    static void isAsFull(Check check, String name, MarchTests x) {
        check.due(name, seen(full(), USED_ROWS), () -> seen(x, USED_ROWS));
    }

    /** On a used object the call throws what is due, and all that can be seen then is as without it. */
    static void changesNothing(Check check, String name, String due, Use call) {
        MarchTests x = used();
        check.due(name, due, () -> call.on(x));
        isAsUsed(check, name + ", and then", x);
    }

    static void changesNothingWhenFull(Check check, String name, String due, Use call) {
        MarchTests x = full();
        check.due(name, due, () -> call.on(x));
        isAsFull(check, name + ", and then", x);
    }

    static void changesNothingWithoutMarch(Check check, String name, String due, Use call) {
        MarchTests x = withoutMarch();
        check.due(name, due, () -> call.on(x));
        check.due(name + ", and then", seen(withoutMarch(), 0), () -> seen(x, 0));
    }
}

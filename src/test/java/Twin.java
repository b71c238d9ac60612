/** Two objects of one past: a call that throws is made on one of them, and both must answer alike from then on. */
final class Twin {
    private static final int[] NUMBERS = {0, 1, 2, 3, 4, 5};

    private Twin() {
    }

    interface Use {
        Object on(MarchTests x);
    }

    /** Nothing here is as in a new object: the tape, the march, faults, failings, repair, ground, ports, scrambled. */
    static MarchTests used() {
        MarchTests x = Check.marching(4, 2, "^(w0)d;v(r0,w1)");
        x.fault(5, 1, 0);
        x.fault(10, 4, 3);
        x.fault(8, 6, 0);
        x.scramble(0, 3);
        x.ground(3);
        x.port(2);
        x.run(1);
        x.repair(2, 2, 9);
        Check.tell(x, "v(r1,w1)");
        return x;
    }

    /** The same, with no room for one more fault. */
    static MarchTests full() {
        MarchTests x = used();
        x.fault(3, 2, 0);
        return x;
    }

    /** No march was read; the rest is as it can be then. */
    static MarchTests withoutMarch() {
        MarchTests x = new MarchTests(4, 2);
        x.fault(1, 1, 0);
        x.scramble(1, 2);
        x.ground(2);
        x.port(2);
        x.repair(1, 1, 1);
        Check.tell(x, "v(r1,w1)");
        return x;
    }

    /** All that can be seen of an object; much of it only by changing it, so it is no use behind this. */
    static String seen(MarchTests x) {
        StringBuilder text = new StringBuilder();
        seeRepair(text, x);
        seeFailings(text, x);
        seeRows(text, x);
        text.append(" tape ").append(x.unit(';')).append(x.unit('d')).append(x.read());
        seeRows(text, x);
        for (int order = 0; order < 3; order++) {
            int o = order;
            text.append(" run ").append(Check.told(() -> x.run(o)));
            seeFailings(text, x);
        }
        text.append(" ground ").append(x.ground(3)).append(x.ground(2));
        text.append(" ports ").append(x.port(1));
        text.append(" faults ").append(Check.told(() -> x.fault(0, 0, 0)));
        return text.toString();
    }

    private static void seeRepair(StringBuilder text, MarchTests x) {
        text.append(" proved ").append(x.proved());
        for (int i : NUMBERS) {
            text.append(" fuse ").append(x.fuse(i)).append(" spare ").append(Check.told(() -> x.spare(i, 1)));
        }
    }

    private static void seeFailings(StringBuilder text, MarchTests x) {
        int count = x.failing(0, 4);
        text.append(" failing ").append(count);
        for (int k = 0; k < Math.min(count, 12); k++) {
            for (int what = 0; what < 4; what++) {
                text.append(' ').append(x.failing(k, what));
            }
        }
    }

    private static void seeRows(StringBuilder text, MarchTests x) {
        text.append(" rows");
        for (int i : NUMBERS) {
            text.append(' ').append(Check.told(() -> x.machine(i)));
        }
    }

    /** On a used object the call throws what is due, and all that can be seen then is as without it. */
    static void changesNothing(Check check, String name, String due, Use call) {
        MarchTests x = used();
        check.due(name, due, () -> call.on(x));
        check.due(name + ", and then", seen(used()), () -> seen(x));
    }

    static void changesNothingWhenFull(Check check, String name, String due, Use call) {
        MarchTests x = full();
        check.due(name, due, () -> call.on(x));
        check.due(name + ", and then", seen(full()), () -> seen(x));
    }

    static void changesNothingWithoutMarch(Check check, String name, String due, Use call) {
        MarchTests x = withoutMarch();
        check.due(name, due, () -> call.on(x));
        check.due(name + ", and then", seen(withoutMarch()), () -> seen(x));
    }
}

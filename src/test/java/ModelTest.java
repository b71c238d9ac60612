import java.util.Random;

/** Long runs of mixed calls, each answer held against the plain model; the seeds are written, so each run is the same. */
final class ModelTest {
    private static final int RUNS = 1500;
    private static final int[] ODD_NUMBERS = {-1, -2, 16, 17, 64, 300, Integer.MAX_VALUE, Integer.MIN_VALUE};

    private final Random random;
    private final Check check;
    private final MarchTests x;
    private final Model model;
    private final int words;
    private final int bits;
    private final String name;
    private int calls;

    private ModelTest(Check check, int seed) {
        this.check = check;
        random = new Random(seed);
        // Large memories are dear for the model: they come now and then.
        words = seed % 50 == 0 ? 14 + random.nextInt(5) : random.nextInt(8);
        bits = random.nextInt(6);
        x = new MarchTests(words, bits);
        model = new Model(words, bits);
        name = "seed " + seed + ", " + words + " words of " + bits + ", call ";
    }

    private void same(String call, Check.Call ofModel, Check.Call ofObject) {
        calls++;
        check.due(name + calls + ": " + call, Check.told(ofModel), ofObject);
    }

    /** A number from 0 on, or seldom one that is far from right. */
    private int number(int below) {
        if (random.nextInt(25) == 0) {
            return ODD_NUMBERS[random.nextInt(ODD_NUMBERS.length)];
        }
        return random.nextInt(below + (random.nextInt(10) == 0 ? 2 : 0));
    }

    private String blank() {
        return random.nextInt(12) == 0 ? "" + "\t\n\r ".charAt(random.nextInt(4)) : "";
    }

    private String text() {
        StringBuilder text = new StringBuilder(blank());
        int elements = random.nextInt(20) == 0 ? 15 + random.nextInt(3) : 1 + random.nextInt(5);
        for (int e = 0; e < elements; e++) {
            text.append(e > 0 && random.nextBoolean() ? ";" : "").append(blank());
            if (random.nextInt(5) == 0) {
                text.append('d').append(blank());
                continue;
            }
            text.append("^v*".charAt(random.nextInt(3))).append(blank()).append('(');
            int operations = random.nextInt(20) == 0 ? 7 + random.nextInt(3) : 1 + random.nextInt(4);
            for (int o = 0; o < operations; o++) {
                text.append(o > 0 ? "," : "").append(blank()).append(random.nextBoolean() ? 'w' : 'r').append(blank());
                text.append(random.nextBoolean() ? '0' : '1').append(blank());
            }
            text.append(')').append(blank());
        }
        if (random.nextInt(4) == 0) {
            int place = random.nextInt(text.length());
            text.replace(place, place + random.nextInt(2), "" + "^v*(),;dwr01 x".charAt(random.nextInt(14)));
        }
        return text.toString();
    }

    private void read() {
        String text = text();
        for (int i = 0; i < text.length(); i++) {
            int unit = text.charAt(i) + (random.nextInt(40) == 0 ? 256 * (random.nextInt(9) - 4) : 0);
            same("unit(" + unit + ")", () -> model.unit(unit), () -> x.unit(unit));
        }
        same("read()", model::read, x::read);
        int row = number(30);
        same("machine(" + row + ")", () -> model.machine(row), () -> x.machine(row));
    }

    private void fault() {
        int cells = Math.max(1, words * bits);
        int kind = random.nextInt(30) == 0 ? MarchTests.NONE : number(14);
        int cell = number(cells);
        int other = number(cells);
        same("fault(" + kind + ", " + cell + ", " + other + ")", () -> model.fault(kind, cell, other),
            () -> x.fault(kind, cell, other));
    }

    private void run() {
        int order = number(3);
        same("run(" + order + ")", () -> model.run(order), () -> x.run(order));
        for (int i = 0; i < 5; i++) {
            int k = number(i == 0 ? 300 : 12);
            for (int w = -1; w < 6; w++) {
                int what = w;
                same("failing(" + k + ", " + what + ")", () -> model.failing(k, what), () -> x.failing(k, what));
            }
        }
    }

    private void repair() {
        int rows = number(words > 8 ? 4 : 9);
        int columns = number(9);
        long steps = random.nextInt(3) == 0 ? number(6) : 16L << random.nextInt(40);
        same("repair(" + rows + ", " + columns + ", " + steps + ")", () -> model.repair(rows, columns, steps),
            () -> x.repair(rows, columns, steps));
        same("proved()", model::proved, x::proved);
        for (int i = -1; i < 13; i++) {
            int k = i;
            int what = number(2);
            same("spare(" + k + ", " + what + ")", () -> model.spare(k, what), () -> x.spare(k, what));
        }
        for (int i = -1; i < 22; i++) {
            int k = i;
            same("fuse(" + k + ")", () -> model.fuse(k), () -> x.fuse(k));
        }
    }

    private void settings() {
        int from = number(Math.max(1, words));
        int to = number(Math.max(1, words));
        int ports = number(3);
        int ground = number(4);
        switch (random.nextInt(3)) {
            case 0:
                same("scramble(" + from + ", " + to + ")", () -> model.scramble(from, to), () -> x.scramble(from, to));
                break;
            case 1:
                same("port(" + ports + ")", () -> model.port(ports), () -> x.port(ports));
                break;
            default:
                same("ground(" + ground + ")", () -> model.ground(ground), () -> x.ground(ground));
                break;
        }
    }

    private void covered() {
        int kind = number(words > 8 ? 10 : 14);
        int part = number(4) / 2;
        same("covered(" + kind + ", " + part + ")", () -> model.covered(kind, part), () -> x.covered(kind, part));
    }

    private void calls() {
        for (int i = 0; i < 40 && calls < 450; i++) {
            int which = random.nextInt(12);
            if (which < 2) {
                read();
            } else if (which < 5) {
                fault();
            } else if (which < 8) {
                run();
            } else if (which < 9) {
                repair();
            } else if (which < 11) {
                settings();
            } else {
                covered();
            }
        }
    }

    public static void main(String[] args) {
        Check check = new Check("all promises, held against the model");
        for (int seed = 0; seed < RUNS; seed++) {
            new ModelTest(check, seed).calls();
        }
        check.finish();
    }
}

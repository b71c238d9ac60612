import java.util.ArrayList;
import java.util.List;

/** The document once more, word by word and cell by cell, with no thought for speed: what MarchTests is held against. */
final class Model {
    private static final int[] PAIRED = {10, 11, 12, 13};

    private record Fault(int kind, int victim, int other) {
    }

    private record Element(char direction, List<String> operations) {
    }

    private record Failure(int element, int operation, int word, int bits) {
    }

    private static final class Wrong extends Exception {
        private static final long serialVersionUID = 1;
        private final int place;

        Wrong(int place) {
            this.place = place;
        }
    }

    private final int words;
    private final int bits;
    private StringBuilder tape = new StringBuilder();
    private List<Element> march;
    private List<Fault> faults = new ArrayList<>();
    private List<Failure> failures = new ArrayList<>();
    private final List<Integer> scrambled = new ArrayList<>();
    private int ground;
    private int ports = 1;
    private boolean proved;
    private List<Integer> spareRows = new ArrayList<>();
    private List<Integer> spareColumns = new ArrayList<>();

    private int[] cells;
    private int[] latest;

    Model(int words, int bits) {
        this.words = words < 1 ? 1 : words > 16 ? 16 : words;
        this.bits = bits < 1 ? 1 : bits > 4 ? 4 : bits;
        for (int i = 0; i < this.words; i++) {
            scrambled.add(i);
        }
    }

    boolean unit(int u) {
        if (tape.length() == 400) {
            return false;
        }
        tape.append((char) Math.floorMod(u, 256));
        return true;
    }

    // ---- the text, by descent

    private int at;
    private String text;

    private char next() {
        while (at < text.length() && "\t\n\r ".indexOf(text.charAt(at)) >= 0) {
            at++;
        }
        return at < text.length() ? text.charAt(at) : '\uffff';
    }

    private char take(String allowed) throws Wrong {
        char c = next();
        if (allowed.indexOf(c) < 0) {
            throw new Wrong(at);
        }
        at++;
        return c;
    }

    private Element element() throws Wrong {
        char direction = take("^v*d");
        List<String> operations = new ArrayList<>();
        if (direction != 'd') {
            take("(");
            do {
                if (operations.size() == 8) {
                    next();
                    throw new Wrong(at);
                }
                operations.add("" + take("wr") + take("01"));
            } while (take(",)") == ',');
        }
        return new Element(direction, operations);
    }

    int read() {
        text = tape.toString();
        tape = new StringBuilder();
        at = 0;
        List<Element> elements = new ArrayList<>();
        try {
            elements.add(element());
            while (next() != '\uffff') {
                if (next() == ';') {
                    at++;
                    next();
                }
                if (elements.size() == 16) {
                    throw new Wrong(at);
                }
                elements.add(element());
            }
        } catch (Wrong wrong) {
            return -1 - wrong.place;
        }
        march = elements;
        return elements.size();
    }

    // ---- the faults

    private boolean paired(int kind) {
        for (int p : PAIRED) {
            if (p == kind) {
                return true;
            }
        }
        return false;
    }

    int fault(int kind, int cell, int other) {
        int all = words * bits;
        if (kind == -1) {
            faults = new ArrayList<>();
            return 0;
        }
        if (cell < 0 || cell >= all) {
            throw new IndexOutOfBoundsException();
        }
        if (paired(kind) && (other < 0 || other >= all)) {
            throw new IndexOutOfBoundsException();
        }
        if (faults.size() == 4) {
            throw new IllegalStateException();
        }
        if (kind < 0 || kind > 13 || paired(kind) && cell == other) {
            throw new IllegalArgumentException();
        }
        faults.add(new Fault(kind, cell, other));
        return faults.size();
    }

    private void set(int cell, int v) {
        if (cells[cell] == v) {
            return;
        }
        cells[cell] = v;
        for (Fault f : faults) {
            if ((f.kind == 10 && v == 1 || f.kind == 11 && v == 0) && f.other == cell) {
                cells[f.victim] = 1 - cells[f.victim];
            }
        }
    }

    private void behind() {
        for (Fault f : faults) {
            if (f.kind == 12 && cells[f.other] == 1 || f.kind == 0) {
                cells[f.victim] = 0;
            } else if (f.kind == 1) {
                cells[f.victim] = 1;
            }
        }
    }

    private void write(int word, int[] values) {
        for (int bit = 0; bit < bits; bit++) {
            int cell = word * bits + bit;
            int v = values[bit];
            int w = cells[cell];
            int x = v;
            for (Fault f : faults) {
                if (f.victim == cell) {
                    if (f.kind == 0) {
                        x = 0;
                    } else if (f.kind == 1) {
                        x = 1;
                    } else if (f.kind == 2 && w == 0) {
                        x = 0;
                    } else if (f.kind == 3 && w == 1) {
                        x = 1;
                    } else if (f.kind == 4) {
                        x = w;
                    } else if (f.kind == 9 && v == w) {
                        x = 1 - w;
                    }
                }
            }
            set(cell, x);
        }
        behind();
    }

    private int[] readWord(int word) {
        int[] got = new int[bits];
        for (int bit = 0; bit < bits; bit++) {
            int cell = word * bits + bit;
            int x = cells[cell];
            for (Fault f : faults) {
                if (f.victim == cell && f.kind == 4) {
                    x = latest[bit];
                } else if (f.victim == cell && f.kind == 6) {
                    x = 1 - cells[cell];
                    set(cell, x);
                } else if (f.victim == cell && f.kind == 7) {
                    set(cell, 1 - cells[cell]);
                } else if (f.victim == cell && f.kind == 8) {
                    x = 1 - x;
                } else if (f.kind == 13 && f.victim == cell && cells[f.other] == 0) {
                    x = 0;
                } else if (f.kind == 13 && f.other == cell && cells[f.victim] == 0) {
                    x = 0;
                }
            }
            got[bit] = x;
            latest[bit] = x;
        }
        behind();
        return got;
    }

    // ---- running

    private List<Integer> places(int order) {
        List<Integer> places = new ArrayList<>();
        for (int p = 0; p < 16; p++) {
            String digits = String.format("%4s", Integer.toBinaryString(p)).replace(' ', '0');
            String back = new StringBuilder(digits).reverse().toString();
            int word = order == 0 ? p : order == 1 ? Integer.parseInt(back, 2) : words - 1 - p;
            if (word >= 0 && word < words) {
                places.add(scrambled.get(word));
            }
        }
        return places;
    }

    private int zero(int word, int bit) {
        return ground == 0 ? 0 : ground == 1 ? (bit + word) % 2 : ground == 2 ? word % 2 : bit % 2;
    }

    private List<Failure> failuresOf(int order) {
        List<Failure> failed = new ArrayList<>();
        List<Integer> places = places(order);
        cells = new int[words * bits];
        latest = new int[bits];
        behind();
        for (int e = 0; e < march.size(); e++) {
            Element element = march.get(e);
            if (element.direction == 'd') {
                for (Fault f : faults) {
                    if (f.kind == 5) {
                        cells[f.victim] = 0;
                    }
                }
                behind();
                continue;
            }
            for (int i = 0; i < words; i++) {
                int place = element.direction == 'v' ? words - 1 - i : i;
                for (int o = 0; o < element.operations.size(); o++) {
                    int wrong = operate(element.operations.get(o), places, place);
                    if (wrong != 0) {
                        failed.add(new Failure(e, o, places.get(place), wrong));
                    }
                }
            }
        }
        return failed;
    }

    private int operate(String operation, List<Integer> places, int place) {
        int word = places.get(place);
        int[] told = new int[bits];
        for (int bit = 0; bit < bits; bit++) {
            told[bit] = operation.charAt(1) == '0' ? zero(word, bit) : 1 - zero(word, bit);
        }
        if (operation.charAt(0) == 'w') {
            write(word, told);
            return 0;
        }
        int[] got = readWord(word);
        if (ports == 2) {
            readWord(places.get((place + 1) % words));
        }
        int wrong = 0;
        for (int bit = 0; bit < bits; bit++) {
            wrong += got[bit] != told[bit] ? 1 << bit : 0;
        }
        return wrong;
    }

    int run(int order) {
        if (march == null) {
            throw new IllegalStateException();
        }
        if (order < 0 || order > 2) {
            throw new IllegalArgumentException();
        }
        failures = failuresOf(order);
        boolean any = !failures.isEmpty();
        failures = failures.subList(0, Math.min(300, failures.size()));
        return any ? 1 : 0;
    }

    long covered(int kind, int part) {
        if (march == null) {
            throw new IllegalStateException();
        }
        if (kind < 0 || kind > 13 || part < 0 || part > 1) {
            throw new IllegalArgumentException();
        }
        List<Fault> kept = faults;
        int all = words * bits;
        long[] parts = new long[2];
        for (int v = 0; v < all; v++) {
            for (int a = 0; a < (paired(kind) ? all : 1); a++) {
                if (!paired(kind) || a != v) {
                    faults = List.of(new Fault(kind, v, a));
                    parts[0] += failuresOf(0).isEmpty() ? 0 : 1;
                    parts[1]++;
                }
            }
        }
        faults = kept;
        return parts[part];
    }

    int machine(int i) {
        if (march == null) {
            throw new IllegalStateException();
        }
        List<Integer> rows = new ArrayList<>();
        for (Element element : march) {
            if (element.direction == 'd') {
                rows.add(16 + 8);
            }
            for (int o = 0; o < element.operations.size(); o++) {
                String operation = element.operations.get(o);
                rows.add((element.direction == 'v' ? 1 : 0) + (operation.charAt(0) == 'r' ? 2 : 0)
                    + (operation.charAt(1) == '1' ? 4 : 0) + (o == element.operations.size() - 1 ? 8 : 0));
            }
        }
        if (i < 0 || i >= rows.size()) {
            throw new IndexOutOfBoundsException();
        }
        return rows.get(i);
    }

    boolean scramble(int from, int to) {
        if (from < 0 || to < 0 || from >= words || to >= words) {
            throw new IndexOutOfBoundsException();
        }
        java.util.Collections.swap(scrambled, from, to);
        return from != to;
    }

    int failing(int k, int what) {
        if (what < 0 || what > 4 || k < 0 || k >= failures.size() && !(k == 0 && what == 4)) {
            throw new IndexOutOfBoundsException();
        }
        if (what == 4) {
            return failures.size();
        }
        Failure f = failures.get(k);
        return what == 0 ? f.element : what == 1 ? f.operation : what == 2 ? f.word : f.bits;
    }

    // ---- repair: all sets of rows and columns are tried

    private static List<Integer> members(int set) {
        List<Integer> members = new ArrayList<>();
        for (int i = 0; i < 31; i++) {
            if ((set >> i & 1) == 1) {
                members.add(i);
            }
        }
        return members;
    }

    private boolean repairs(int rowSet, int columnSet) {
        for (Failure f : failures) {
            if ((rowSet >> f.word & 1) == 0 && (f.bits & ~columnSet) != 0) {
                return false;
            }
        }
        return true;
    }

    private static int compare(List<Integer> rows, List<Integer> columns,
            List<Integer> bestRows, List<Integer> bestColumns) {
        int c = Integer.compare(rows.size() + columns.size(), bestRows.size() + bestColumns.size());
        c = c != 0 ? c : Integer.compare(rows.size(), bestRows.size());
        for (int i = 0; c == 0 && i < rows.size(); i++) {
            c = rows.get(i).compareTo(bestRows.get(i));
        }
        return c;
    }

    int repair(int rows, int columns, long steps) {
        if (rows < 0 || rows > 8 || columns < 0 || columns > 8 || steps < 0) {
            throw new IllegalArgumentException();
        }
        spareRows = new ArrayList<>();
        spareColumns = new ArrayList<>();
        if (failures.stream().map(f -> f.word).distinct().count() > steps) {
            proved = false;
            return -2;
        }
        proved = true;
        List<Integer> bestRows = null;
        List<Integer> bestColumns = null;
        for (int r = 0; r < 1 << words; r++) {
            for (int c = 0; c < 1 << bits; c++) {
                if (Integer.bitCount(r) <= rows && Integer.bitCount(c) <= columns && repairs(r, c)
                        && (bestRows == null || compare(members(r), members(c), bestRows, bestColumns) < 0)) {
                    bestRows = members(r);
                    bestColumns = members(c);
                }
            }
        }
        if (bestRows == null) {
            return -1;
        }
        spareRows = bestRows;
        spareColumns = bestColumns;
        return bestRows.size() + bestColumns.size();
    }

    int spare(int k, int what) {
        if (k < 0 || k >= spareRows.size() + spareColumns.size() || what < 0 || what > 1) {
            throw new IndexOutOfBoundsException();
        }
        if (k < spareRows.size()) {
            return what == 0 ? 0 : spareRows.get(k);
        }
        return what == 0 ? 1 : spareColumns.get(k - spareRows.size());
    }

    boolean proved() {
        return proved;
    }

    int fuse(int i) {
        if (i < 0 || i >= words + bits) {
            throw new IndexOutOfBoundsException();
        }
        return i < words ? (spareRows.contains(i) ? 1 : 0) : (spareColumns.contains(i - words) ? 1 : 0);
    }

    int port(int n) {
        if (n < 1 || n > 2) {
            throw new IllegalArgumentException();
        }
        int before = ports;
        ports = n;
        return before;
    }

    boolean ground(int kind) {
        if (kind < 0 || kind > 3) {
            throw new IllegalArgumentException();
        }
        boolean another = kind != ground;
        ground = kind;
        return another;
    }
}

import java.util.ArrayList;
import java.util.List;

/** Long runs of calls, told by numbers that look random, on the class and on the oracle: all answers are the same. */
public final class OracleTest {
    private static final int MOST_CALLS = 512;

    private static final String[] TEXTS = {
        "x,y,z", "-x,-y,-z", "-x,-y,z", "-x,y,-z", "x,-y,-z", "x,y,-z", "-y,x,z", "z,x,y", "y,x,-z", "y,x,z", "-y,x-y,z",
        "x-y,x,z", "-x,y+1/2,-z+1/2", "-x,-y,z+1/2", "x+1/2,y+1/2,z", "x+1/2,y+1/2,z+1/2", "x,y+1/2,z+1/2",
        "x+1/2,y,z+1/2", "x+2/3,y+1/3,z+1/3", "x+1/3,y+2/3,z+1/3", "-y,x-y,z+1/3", "-y,x,z+1/4", "y+1/4,-x+3/4,z+3/4",
        "x-y,x,z+1/6", "-y+3/4,x+1/4,z+1/4", "x+1/2,y,z", "x,y+1/2,z", "x,y,z+1/2", "x,y,z+1/3", "x+1/4,y,z", "-x+1/4,-y,-z",
        "x+y,y,z", "x,y,x+z", "z+1/2,x,y", "-z,-x,-y", "y,z,x", "-x,-y+1/2,z", "x+1/2,-y,z", "x,y,z+1/24", "-x,-x+y,-z",
        "x,x-y,-z", "-x+y,y,-z", "x+1/8,y,z", "y,-x,-z"
    };

    private final Numbers numbers;
    private final CrystalHouse house = new CrystalHouse();
    private final Oracle oracle = new Oracle();
    private final List<String> calls = new ArrayList<>();
    private int wrong = 0;
    private final int run;
    private final int kind;

    private OracleTest(int run) {
        this.run = run;
        kind = run % 6;
        numbers = new Numbers(run * 7919L + 17);
    }

    public static void main(String[] args) {
        int runs = args.length > 0 ? Integer.parseInt(args[0]) : 240;
        int first = args.length > 1 ? Integer.parseInt(args[1]) : 0;
        int wrong = 0;
        for (int run = first; run < first + runs; run++) {
            OracleTest test = new OracleTest(run);
            while (test.calls.size() < MOST_CALLS - 12 && test.wrong == 0) {
                test.step();
            }
            wrong += test.wrong;
        }
        System.out.println(wrong == 0 ? "the oracle agrees" : wrong + " answers are not the oracle's");
        if (wrong != 0) {
            System.exit(1);
        }
    }

    private void due(String call, long got, long want) {
        calls.add(call);
        if (got != want) {
            wrong++;
            System.out.println("run " + run + ", call " + calls.size() + ": " + call + " answered " + got + ", due is " + want);
            if (wrong == 1) {
                System.out.println("  behind " + calls.subList(Math.max(0, calls.size() - 20), calls.size()));
            }
        }
    }

    private static long of(boolean b) {
        return b ? 1 : 0;
    }

    /** What a run does most of depends on its kind. */
    private void step() {
        int dice = numbers.below(100);
        switch (kind) {
            case 0 -> stepOf(dice, 60, 90, 96, 98);
            case 1 -> stepOf(dice, 20, 90, 95, 98);
            case 2 -> stepOf(dice, 10, 20, 90, 98);
            case 3 -> stepOf(dice, 12, 30, 45, 98);
            case 4 -> stepOf(dice, 2, 4, 6, 8);
            default -> stepOf(dice, 25, 50, 65, 90);
        }
    }

    private void stepOf(int dice, int texts, int groups, int cells, int models) {
        if (dice < texts) {
            tellOperations();
        } else if (dice < groups) {
            askGroups();
        } else if (dice < cells) {
            askCells();
        } else if (dice < models) {
            askModels();
        } else {
            askPhases();
        }
    }

    // ---- operations ----

    private void tellOperations() {
        switch (numbers.below(6)) {
            case 0, 1, 2 -> readText(numbers.once(3) ? anyText() : numbers.pick(TEXTS));
            case 3 -> {
                int nine = anyMatrix();
                int shift = anyShift();
                due("operation(" + nine + ", " + shift + ")", house.operation(nine, shift), oracle.operation(nine, shift));
            }
            case 4 -> {
                int operation = numbers.index(oracle.ops.size());
                due("tell(" + operation + ")", house.tell(operation), oracle.tell(operation));
                askLetters();
            }
            default -> rawBytes();
        }
    }

    private int anyMatrix() {
        if (numbers.once(3)) {
            return numbers.pick(numbers.below(19683), -1, 19682, 19683, 0, Integer.MIN_VALUE);
        }
        return numbers.pick(16484, 3198, 3200, 16482, 9788, 7892, 4282, 16002, 3680);
    }

    private int anyShift() {
        if (numbers.once(12)) {
            return numbers.pick(-1, 13823, 13824, Integer.MIN_VALUE, Integer.MAX_VALUE, numbers.below(13824));
        }
        int unit = numbers.pick(24, 12, 12, 12, 8, 6);
        return (numbers.below(24 / unit) * 576 + numbers.below(24 / unit) * 24 + numbers.below(24 / unit)) * unit;
    }

    private void askLetters() {
        for (int i = 0; i < 3; i++) {
            int at = numbers.index(oracle.out.length());
            due("letter(" + at + ")", house.letter(at), oracle.letter(at));
        }
    }

    private void readText(String text) {
        for (int from = 0; from < text.length(); from += 20) {
            int n = Math.min(20, text.length() - from);
            feedBoth(Due.five(text, from));
            due("end(" + n + ") '" + text.substring(from, from + n) + "'", house.end(n), oracle.end(n));
        }
        askRead();
    }

    private void feedBoth(int[] five) {
        house.feed(five[0], five[1], five[2], five[3], five[4]);
        oracle.feed(five[0], five[1], five[2], five[3], five[4]);
        calls.add("feed(" + five[0] + ", " + five[1] + ", " + five[2] + ", " + five[3] + ", " + five[4] + ")");
    }

    private void askRead() {
        due("read()", house.read(), oracle.read());
        due("fault(0)", house.fault(0), oracle.fault(0));
        due("fault(1)", house.fault(1), oracle.fault(1));
        if (numbers.once(20)) {
            int what = numbers.pick(-1, 2, 5);
            due("fault(" + what + ")", house.fault(what), oracle.fault(what));
        }
    }

    private void rawBytes() {
        if (numbers.once(2)) {
            feedBoth(new int[] {(int) numbers.next(), 0x782c792c, 0x7a2b312f, (int) numbers.next(), -1});
        }
        int n = numbers.pick(-1, 0, 1, 7, 20, 21, numbers.below(20));
        due("end(" + n + ")", house.end(n), oracle.end(n));
        if (numbers.once(3)) {
            askRead();
        }
    }

    /** A text after the document's rules, mostly with a byte or two changed. */
    private String anyText() {
        StringBuilder text = new StringBuilder();
        for (int row = 0; row < 3; row++) {
            text.append(row == 0 ? "" : ",");
            int terms = numbers.pick(1, 1, 2, 3, 4);
            for (int i = 0; i < terms; i++) {
                blanks(text);
                if (i > 0 || numbers.once(3)) {
                    text.append(numbers.pick("+", "-"));
                    blanks(text);
                }
                term(text, row, i);
            }
            blanks(text);
        }
        int changes = numbers.pick(0, 0, 0, 1, 2);
        for (int i = 0; i < changes && text.length() > 0; i++) {
            int at = numbers.below(text.length());
            switch (numbers.below(3)) {
                case 0 -> text.deleteCharAt(at);
                case 1 -> text.setCharAt(at, anyByte());
                default -> text.insert(at, anyByte());
            }
        }
        return text.length() > 100 ? text.substring(0, 100) : text.toString();
    }

    private char anyByte() {
        return numbers.once(6) ? (char) numbers.below(256) : "xyz,+-/ 0123456789".charAt(numbers.below(18));
    }

    private void blanks(StringBuilder text) {
        while (numbers.once(6)) {
            text.append(' ');
        }
    }

    private void term(StringBuilder text, int row, int i) {
        if (i == 0 && !numbers.once(8)) {
            text.append("xyz".charAt(numbers.once(8) ? numbers.below(3) : row));
        } else if (numbers.once(3)) {
            text.append(numbers.pick("x", "y", "z"));
        } else {
            text.append(numbers.pick("0", "1", "01", "2", "5", "7", "10", "99", "3", "00"));
            if (!numbers.once(4)) {
                blanks(text);
                text.append('/');
                blanks(text);
                text.append(numbers.pick("2", "3", "4", "6", "8", "12", "24", "02", "48", "7", "0", "00", "5", "1", "72", "234"));
            }
        }
    }

    // ---- groups ----

    private void askGroups() {
        int group = numbers.index(oracle.groups.size());
        int size = oracle.noGroup(group) ? 5 : oracle.groups.get(group).size();
        switch (numbers.below(kind == 1 ? 11 : 9)) {
            case 0, 1 -> makeGroup();
            case 2 -> {
                int what = numbers.from(-1, 7);
                due("about(" + group + ", " + what + ")", house.about(group, what), oracle.about(group, what));
            }
            case 3 -> {
                int k = numbers.index(size);
                int what = numbers.from(-1, 4);
                due("of(" + group + ", " + k + ", " + what + ")", house.of(group, k, what), oracle.of(group, k, what));
                due("tellOf(" + group + ", " + k + ")", house.tellOf(group, k), oracle.tellOf(group, k));
                askLetters();
            }
            case 4 -> {
                int i = numbers.index(size);
                int j = numbers.index(size);
                due("product(" + group + ", " + i + ", " + j + ")", house.product(group, i, j), oracle.product(group, i, j));
            }
            case 5 -> {
                int other = numbers.index(oracle.groups.size());
                due("within(" + group + ", " + other + ")", of(house.within(group, other)), of(oracle.within(group, other)));
            }
            case 6 -> askOrbit(group);
            case 7 -> askWave(group);
            default -> {
                int k = numbers.pick(-1, 0, 0, 1, 2, 3, 6, 7, 14, 15, 30, 31, 62, 63);
                due("half(" + group + ", " + k + ")", house.half(group, k), oracle.half(group, k));
            }
        }
    }

    private void makeGroup() {
        int count = numbers.pick(0, 1, 1, 2, 2, 3, 4);
        for (int i = 0; i < count; i++) {
            int operation = numbers.index(oracle.ops.size());
            due("choose(" + operation + ")", of(house.choose(operation)), of(oracle.choose(operation)));
        }
        due("group()", house.group(), oracle.group());
        int last = oracle.groups.size() - 1;
        for (int what = 0; what < 7 && numbers.once(2); what++) {
            due("about(" + last + ", " + what + ")", house.about(last, what), oracle.about(last, what));
        }
    }

    private void askOrbit(int group) {
        int place = anyShift();
        for (int what = -4; what < 4; what++) {
            if (numbers.once(2)) {
                due("orbit(" + group + ", " + place + ", " + what + ")", house.orbit(group, place, what),
                    oracle.orbit(group, place, what));
            }
        }
        int what = numbers.pick(5, 7, 11, 23, 47, 48, 95, 96, 191, 192);
        due("orbit(" + group + ", " + place + ", " + what + ")", house.orbit(group, place, what),
            oracle.orbit(group, place, what));
    }

    private int anyWave() {
        return numbers.once(9) ? numbers.pick(60, -60, 61, -61, Integer.MAX_VALUE, Integer.MIN_VALUE, 59)
            : numbers.from(-4, 4);
    }

    private void askWave(int group) {
        int h = anyWave();
        int k = anyWave();
        int l = anyWave();
        for (int what = 0; what < 3; what++) {
            due("wave(" + group + ", " + h + ", " + k + ", " + l + ", " + what + ")", house.wave(group, h, k, l, what),
                oracle.wave(group, h, k, l, what));
        }
        int what = numbers.pick(-1, 3, 1);
        due("wave(" + group + ", " + h + ", " + k + ", " + l + ", " + what + ")", house.wave(group, h, k, l, what),
            oracle.wave(group, h, k, l, what));
    }

    // ---- cells ----

    private void askCells() {
        int cell = numbers.index(oracle.cells.size());
        switch (numbers.below(7)) {
            case 0, 1 -> makeCell();
            case 2, 3 -> {
                for (int what = 0; what < 8; what++) {
                    if (numbers.once(2)) {
                        due("reduced(" + cell + ", " + what + ")", house.reduced(cell, what), oracle.reduced(cell, what));
                    }
                }
                int what = numbers.pick(-1, 8);
                due("reduced(" + cell + ", " + what + ")", house.reduced(cell, what), oracle.reduced(cell, what));
            }
            case 4 -> {
                int group = numbers.index(oracle.groups.size());
                due("fits(" + group + ", " + cell + ")", of(house.fits(group, cell)), of(oracle.fits(group, cell)));
            }
            default -> {
                int n = numbers.pick(1, 2, 2, 3, 4, 5, 6, 8, 12, 0, 13, -1);
                int count = oracle.multiples(cell, n);
                due("multiples(" + cell + ", " + n + ")", house.multiples(cell, n), count);
                for (int i = 0; i < 3; i++) {
                    int k = numbers.index(Math.max(count, 1));
                    int what = numbers.from(-1, 6);
                    due("multiple(" + cell + ", " + n + ", " + k + ", " + what + ")", house.multiple(cell, n, k, what),
                        oracle.multiple(cell, n, k, what));
                }
            }
        }
    }

    private void makeCell() {
        int a = numbers.pick(2, 4, 6, 10, 100, 10000, numbers.from(1, 40));
        int b = numbers.once(3) ? a : numbers.from(1, 60);
        int c = numbers.once(2) ? a : numbers.pick(9, 16, 25, 9999, 10000, numbers.from(1, 200));
        int[] six = switch (numbers.below(9)) {
            case 0 -> new int[] {a, a, a, 0, 0, 0};
            case 1 -> new int[] {a, a, c, 0, 0, 0};
            case 2 -> new int[] {a, b, c, 0, 0, 0};
            case 3, 4 -> new int[] {a, a, c, 0, 0, -a / 2};
            case 5 -> new int[] {a, a, a, a / 2, a / 2, a / 2};
            case 6 -> new int[] {a, a, a, -a / 3, -a / 3, -a / 3};
            case 7 -> new int[] {a, b, c, numbers.from(-9, 9), numbers.from(-9, 9), numbers.from(-9, 9)};
            default -> new int[] {numbers.from(0, 10001), numbers.from(1, 10000), numbers.from(1, 10000),
                numbers.from(-4000, 4000), numbers.from(-4000, 4000), numbers.from(-4000, 4000)};
        };
        if (numbers.once(20)) {
            six[numbers.below(6)] = numbers.pick(0, -1, 10001, -10001, Integer.MIN_VALUE, Integer.MAX_VALUE);
        }
        due("cell(" + six[0] + ", " + six[1] + ", " + six[2] + ", " + six[3] + ", " + six[4] + ", " + six[5] + ")",
            house.cell(six[0], six[1], six[2], six[3], six[4], six[5]),
            oracle.cell(six[0], six[1], six[2], six[3], six[4], six[5]));
    }

    // ---- models ----

    private void askModels() {
        int model = numbers.index(oracle.models.size());
        int size = oracle.noModel(model) ? 0 : oracle.models.get(model).places.size();
        int i = numbers.index(size);
        switch (numbers.below(oracle.models.isEmpty() ? 2 : 12)) {
            case 0 -> {
                int group = numbers.index(oracle.groups.size());
                int cell = numbers.index(oracle.cells.size());
                due("model(" + group + ", " + cell + ")", house.model(group, cell), oracle.model(group, cell));
            }
            case 1, 2, 3, 4 -> {
                int weight = numbers.once(15) ? numbers.pick(0, 100, -100, 99, -99) : numbers.from(-20, 99);
                int place = numbers.once(2) ? anyShift() : numbers.below(13824);
                due("atom(" + model + ", " + weight + ", " + place + ")", house.atom(model, weight, place),
                    oracle.atom(model, weight, place));
            }
            case 5 -> {
                int what = numbers.from(-1, 3);
                due("placed(" + model + ", " + i + ", " + what + ")", house.placed(model, i, what), oracle.placed(model, i, what));
            }
            case 6, 7 -> {
                int h = anyWave();
                int k = anyWave();
                int l = anyWave();
                for (int what = -1; what < 13; what++) {
                    if (numbers.once(4)) {
                        due("amplitude(" + model + ", " + h + ", " + k + ", " + l + ", " + what + ")",
                            house.amplitude(model, h, k, l, what), oracle.amplitude(model, h, k, l, what));
                    }
                }
            }
            case 8 -> {
                int j = numbers.once(4) ? i : numbers.index(size);
                due("distance(" + model + ", " + i + ", " + j + ")", house.distance(model, i, j), oracle.distance(model, i, j));
            }
            case 9 -> {
                long r = numbers.once(8) ? numbers.pick(-1, 0, 1) : numbers.below(20000);
                due("near(" + model + ", " + i + ", " + r + ")", house.near(model, i, r), oracle.near(model, i, r));
            }
            case 10 -> askLines(model, size);
            default -> {
                int place = numbers.once(2) ? anyShift() : numbers.pick(0, 12, 300, 6924, 7212);
                due("map(" + model + ", " + place + ")", house.map(model, place), oracle.map(model, place));
            }
        }
    }

    private void askLines(int model, int size) {
        int m = size > 60 ? numbers.pick(1, 1, 2, 0, 7) : numbers.pick(1, 2, 2, 3, 4, 0, 7, -1);
        int count = oracle.lines(model, m);
        due("lines(" + model + ", " + m + ")", house.lines(model, m), count);
        for (int i = 0; i < 4; i++) {
            int k = numbers.index(Math.max(count, 1));
            int what = numbers.from(-1, 6);
            due("line(" + model + ", " + m + ", " + k + ", " + what + ")", house.line(model, m, k, what),
                oracle.line(model, m, k, what));
        }
    }

    // ---- phases ----

    private void askPhases() {
        if (numbers.once(3)) {
            int p = numbers.once(3) ? numbers.pick(0, 1, 99, 100, -1) : numbers.from(0, 6);
            int q = numbers.once(3) ? numbers.pick(0, 1, 99, 100, -1) : numbers.from(0, 6);
            long energy = numbers.once(12) ? numbers.pick(100000000, -100000000, 100000001, -100000001)
                : numbers.from(-12, 6) * (long) numbers.pick(1, 7, 1000000);
            energy = numbers.once(60) ? Long.MIN_VALUE : energy;
            due("phase(" + p + ", " + q + ", " + energy + ")", house.phase(p, q, energy), oracle.phase(p, q, energy));
        } else {
            int phase = numbers.index(oracle.phases.size());
            int what = numbers.pick(0, 1, 0, 1, 2, 3, -1);
            due("above(" + phase + ", " + what + ")", house.above(phase, what), oracle.above(phase, what));
        }
    }
}

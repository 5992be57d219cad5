import java.math.BigInteger;
import java.util.ArrayList;
import java.util.Arrays;
import java.util.Collections;
import java.util.HashSet;
import java.util.LinkedHashSet;
import java.util.List;
import java.util.Map;
import java.util.Set;
import java.util.TreeMap;
import java.util.TreeSet;

/** The document's words, done in the slowest and most literal way, to hold the class against. */
final class Oracle {
    static final int NONE = -1;

    final int[] waiting = new int[20];
    final List<Integer> text = new ArrayList<>();
    int fault = 0;
    int faultPlace = NONE;
    String out = "";
    final List<Op> ops = new ArrayList<>();
    final Set<Integer> chosen = new HashSet<>();
    final List<List<Op>> groups = new ArrayList<>();
    final List<long[]> cells = new ArrayList<>();
    final List<Atoms> models = new ArrayList<>();
    final List<long[]> phases = new ArrayList<>();

    /** An operation: nine numbers of the matrix, then three of the shift. */
    static final class Op implements Comparable<Op> {
        final int[] n;

        Op(int[] n) {
            this.n = n;
        }

        int at(int row, int column) {
            return n[3 * row + column];
        }

        Op times(Op q) {
            int[] r = new int[12];
            for (int i = 0; i < 3; i++) {
                for (int j = 0; j < 3; j++) {
                    for (int k = 0; k < 3; k++) {
                        r[3 * i + j] += at(i, k) * q.at(k, j);
                    }
                    r[9 + i] += at(i, j) * q.n[9 + j];
                }
                r[9 + i] = Math.floorMod(r[9 + i] + n[9 + i], 24);
            }
            return new Op(r);
        }

        boolean isOne() {
            for (int i = 0; i < 9; i++) {
                if (Math.abs(n[i]) > 1) {
                    return false;
                }
            }
            return true;
        }

        int det() {
            int sum = 0;
            for (int j = 0; j < 3; j++) {
                int k = (j + 1) % 3;
                int l = (j + 2) % 3;
                sum += at(0, j) * (at(1, k) * at(2, l) - at(1, l) * at(2, k));
            }
            return sum;
        }

        int sort() {
            int t = at(0, 0) + at(1, 1) + at(2, 2);
            String key = det() + ":" + t;
            return switch (key) {
                case "1:3" -> 1;
                case "1:-1" -> 2;
                case "1:0" -> 3;
                case "1:1" -> 4;
                case "1:2" -> 6;
                case "-1:-3" -> -1;
                case "-1:1" -> -2;
                case "-1:0" -> -3;
                case "-1:-1" -> -4;
                case "-1:-2" -> -6;
                default -> 0;
            };
        }

        int[] take(int[] place) {
            int[] r = new int[3];
            for (int i = 0; i < 3; i++) {
                for (int j = 0; j < 3; j++) {
                    r[i] += at(i, j) * place[j];
                }
                r[i] = Math.floorMod(r[i] + n[9 + i], 24);
            }
            return r;
        }

        List<Integer> matrix() {
            List<Integer> m = new ArrayList<>();
            for (int i = 0; i < 9; i++) {
                m.add(n[i]);
            }
            return m;
        }

        String told() {
            StringBuilder b = new StringBuilder();
            for (int i = 0; i < 3; i++) {
                StringBuilder e = new StringBuilder();
                for (int j = 0; j < 3; j++) {
                    if (at(i, j) != 0) {
                        e.append(at(i, j) < 0 ? "-" : "+").append("xyz".charAt(j));
                    }
                }
                String expression = e.toString();
                if (expression.startsWith("+")) {
                    expression = expression.substring(1);
                }
                int s = n[9 + i];
                if (s != 0) {
                    int g = BigInteger.valueOf(s).gcd(BigInteger.valueOf(24)).intValue();
                    expression += "+" + s / g + "/" + 24 / g;
                }
                b.append(i == 0 ? "" : ",").append(expression);
            }
            return b.toString();
        }

        @Override
        public int compareTo(Op o) {
            return Arrays.compare(n, o.n);
        }

        @Override
        public boolean equals(Object o) {
            return o instanceof Op p && Arrays.equals(n, p.n);
        }

        @Override
        public int hashCode() {
            return Arrays.hashCode(n);
        }
    }

    static final Op SAME = new Op(new int[] {1, 0, 0, 0, 1, 0, 0, 0, 1, 0, 0, 0});

    static final class Atoms {
        List<Op> group;
        long[] cell;
        List<Integer> weights = new ArrayList<>();
        List<int[]> places = new ArrayList<>();
        List<Integer> owners = new ArrayList<>();
    }

    // ---- texts ----

    void feed(int a, int b, int c, int d, int e) {
        int[] five = {a, b, c, d, e};
        for (int i = 0; i < 20; i++) {
            waiting[i] = (five[i / 4] >> (8 * (3 - i % 4))) & 0xff;
        }
    }

    int end(int n) {
        if (n < 0 || n > 20 || text.size() + n > 100) {
            return NONE;
        }
        for (int i = 0; i < n; i++) {
            text.add(waiting[i]);
        }
        Arrays.fill(waiting, 0);
        return text.size();
    }

    /**
     * A machine of states over the bytes: S a term or a sign is due, T a term is due, L behind a letter,
     * 1 and 2 behind so many digits, B behind a number and blanks, D the second number is due,
     * 3 and 4 behind so many digits of the second one, E behind that and blanks.
     */
    int read() {
        int[] n = new int[12];
        char state = 'S';
        int row = 0;
        int sign = 1;
        int first = 0;
        int second = 0;
        int start = 0;
        int[] found = {0, NONE};
        int length = text.size();
        for (int i = 0; i <= length && found[0] == 0; i++) {
            int c = i < length ? text.get(i) : -1;
            boolean digit = c >= '0' && c <= '9';
            boolean inSecond = state == '3' || state == '4';
            if (inSecond && !(state == '3' && digit)) {
                if (second == 0 || 24 * first % second != 0) {
                    found = new int[] {2, start};
                    break;
                }
                n[9 + row] += sign * 24 * first / second;
                state = 'E';
            }
            if (c == ' ') {
                state = state == '1' || state == '2' ? 'B' : state;
            } else if (digit && (state == 'S' || state == 'T')) {
                start = i;
                first = c - '0';
                state = '1';
            } else if (digit && state == '1') {
                first = 10 * first + c - '0';
                state = '2';
            } else if (digit && state == 'D') {
                second = c - '0';
                state = '3';
            } else if (digit && state == '3') {
                second = 10 * second + c - '0';
                state = '4';
            } else if (c == '/' && (state == '1' || state == '2' || state == 'B')) {
                state = 'D';
            } else if ("xyz".indexOf(c) >= 0 && (state == 'S' || state == 'T')) {
                n[3 * row + "xyz".indexOf(c)] += sign;
                state = 'L';
            } else if ((c == '+' || c == '-') && state != 'T' && state != 'D') {
                sign = c == '+' ? 1 : -1;
                state = 'T';
            } else if (c == ',' && row < 2 && "L12BE".indexOf(state) >= 0) {
                row++;
                sign = 1;
                state = 'S';
            } else if (!(c == -1 && row == 2 && "L12BE".indexOf(state) >= 0)) {
                found = new int[] {1, i};
            }
        }
        text.clear();
        fault = found[0];
        faultPlace = found[1];
        return found[0] != 0 ? NONE : readDone(n, length);
    }

    private int readDone(int[] n, int length) {
        for (int i = 9; i < 12; i++) {
            n[i] = Math.floorMod(n[i], 24);
        }
        Op op = new Op(n);
        if (!op.isOne()) {
            fault = 3;
            faultPlace = length;
            return NONE;
        }
        if (op.det() != 1 && op.det() != -1) {
            fault = 4;
            faultPlace = length;
            return NONE;
        }
        if (ops.size() == 40) {
            fault = 5;
            return NONE;
        }
        ops.add(op);
        return ops.size() - 1;
    }

    int fault(int what) {
        return what == 0 ? fault : what == 1 ? faultPlace : NONE;
    }

    int operation(int nine, int shift) {
        if (ops.size() == 40 || nine < 0 || nine > 19682 || shift < 0 || shift > 13823) {
            return NONE;
        }
        int[] n = new int[12];
        String digits = Integer.toString(nine + 19683, 3).substring(1);
        for (int i = 0; i < 9; i++) {
            n[i] = digits.charAt(i) - '1';
        }
        System.arraycopy(places(shift), 0, n, 9, 3);
        Op op = new Op(n);
        if (op.det() * op.det() != 1) {
            return NONE;
        }
        ops.add(op);
        return ops.size() - 1;
    }

    static int[] places(int code) {
        return new int[] {code / 576, code / 24 % 24, code % 24};
    }

    static int code(int[] place) {
        return place[0] * 576 + place[1] * 24 + place[2];
    }

    int tell(int operation) {
        if (operation < 0 || operation >= ops.size()) {
            return NONE;
        }
        out = ops.get(operation).told();
        return out.length();
    }

    int tellOf(int group, int k) {
        if (noGroup(group) || k < 0 || k >= groups.get(group).size()) {
            return NONE;
        }
        out = groups.get(group).get(k).told();
        return out.length();
    }

    int letter(int i) {
        return i < 0 || i >= out.length() ? NONE : out.charAt(i);
    }

    // ---- groups ----

    boolean noGroup(int group) {
        return group < 0 || group >= groups.size();
    }

    boolean choose(int operation) {
        if (operation < 0 || operation >= ops.size()) {
            return false;
        }
        if (!chosen.remove(operation)) {
            chosen.add(operation);
        }
        return true;
    }

    int group() {
        List<Op> of = new ArrayList<>();
        for (int i : chosen) {
            of.add(ops.get(i));
        }
        chosen.clear();
        Set<Op> all = new LinkedHashSet<>();
        all.add(SAME);
        List<Op> queue = new ArrayList<>(all);
        for (int i = 0; i < queue.size(); i++) {
            for (Op g : of) {
                Op p = g.times(queue.get(i));
                if (!p.isOne()) {
                    return NONE;
                }
                if (all.add(p)) {
                    queue.add(p);
                }
            }
            if (all.size() > 192) {
                return NONE;
            }
        }
        return keep(all);
    }

    private int keep(Set<Op> all) {
        List<Op> sorted = new ArrayList<>(new TreeSet<>(all));
        int old = groups.indexOf(sorted);
        if (old >= 0) {
            return old;
        }
        if (groups.size() == 60) {
            return NONE;
        }
        groups.add(sorted);
        return groups.size() - 1;
    }

    int about(int group, int what) {
        if (noGroup(group)) {
            return NONE;
        }
        List<Op> g = groups.get(group);
        Set<List<Integer>> matrices = new HashSet<>();
        Set<String> shifts = new HashSet<>();
        for (Op o : g) {
            matrices.add(o.matrix());
            if (o.matrix().equals(SAME.matrix())) {
                shifts.add(o.n[9] + " " + o.n[10] + " " + o.n[11]);
            }
        }
        return switch (what) {
            case 0 -> g.size();
            case 1 -> matrices.size();
            case 2 -> shifts.size();
            case 3 -> letterOf(shifts);
            case 4 -> classOf(g);
            case 5 -> alike(g);
            case 6 -> halves(g).size();
            default -> NONE;
        };
    }

    static int letterOf(Set<String> shifts) {
        List<Set<String>> known = List.of(Set.of("0 0 0"), Set.of("0 0 0", "0 12 12"), Set.of("0 0 0", "12 0 12"),
            Set.of("0 0 0", "12 12 0"), Set.of("0 0 0", "12 12 12"),
            Set.of("0 0 0", "0 12 12", "12 0 12", "12 12 0"), Set.of("0 0 0", "8 16 16", "16 8 8"),
            Set.of("0 0 0", "8 16 8", "16 8 16"));
        int at = known.indexOf(shifts);
        return at < 0 ? 8 : at;
    }

    static final String CLASSES = "none. 2: 0 0 0 0 1. 3: 1. 4: 0 0 0 0 0 1. 5: 1 0 0 0 1 1. 6: 3. 7: 1 0 0 0 0 2."
        + " 8: 3 0 0 0 1 3. 9: 1 0 2. 10: 1 0 0 0 0 0 0 2. 11: 1 0 2 0 1 1 0 2. 12: 5 0 2. 13: 1 0 2 0 0 4."
        + " 14: 3 0 0 0 0 2 0 2. 15: 5 0 2 0 1 5 0 2. 16: 0 2. 17: 0 2 0 0 1 0 2. 18: 3 2. 19: 0 2 0 0 0 3."
        + " 20: 3 2 0 0 1 3 2. 21: 1 2 0 2. 22: 0 2 0 0 0 1 0 0 2. 23: 1 2 0 2 1 1 2 0 2. 24: 7 2 0 2."
        + " 25: 1 2 0 2 0 6. 26: 3 2 0 0 0 4 0 0 2. 27: 7 2 0 2 1 7 2 0 2. 28: 3 8. 29: 3 8 0 0 1 3 8."
        + " 30: 9 8 6. 31: 3 8 0 0 0 6 0 6. 32: 9 8 6 0 1 9 8 6.";

    static int classOf(List<Op> g) {
        int[] sorts = {2, 3, 4, 6, -1, -2, -3, -4, -6};
        int[] counts = new int[9];
        Set<List<Integer>> seen = new HashSet<>();
        for (Op o : g) {
            for (int i = 0; i < 9; i++) {
                if (sorts[i] == o.sort() && !seen.contains(o.matrix())) {
                    counts[i]++;
                }
            }
            seen.add(o.matrix());
        }
        String[] rows = CLASSES.split("\\.");
        for (int row = 0; row < 32; row++) {
            int[] due = new int[9];
            if (row > 0) {
                String[] numbers = rows[row].split(":")[1].trim().split(" ");
                for (int i = 0; i < numbers.length; i++) {
                    due[i] = Integer.parseInt(numbers[i]);
                }
            }
            if (Arrays.equals(due, counts)) {
                return row + 1;
            }
        }
        return NONE;
    }

    /** Each set is told by its lowest one: the lowest b with c a = b c for some c. */
    static int alike(List<Op> g) {
        Map<Op, Op> inverse = new TreeMap<>();
        for (Op c : g) {
            for (Op d : g) {
                if (c.times(d).equals(SAME)) {
                    inverse.put(c, d);
                }
            }
        }
        Set<Op> lowest = new TreeSet<>();
        for (Op a : g) {
            Op low = a;
            for (Op c : g) {
                Op b = c.times(a).times(inverse.get(c));
                if (b.compareTo(low) < 0) {
                    low = b;
                }
            }
            lowest.add(low);
        }
        return lowest.size();
    }

    /** Tries every way to give the makers a sign each, and keeps those that are in line with all products. */
    static List<Set<Op>> halves(List<Op> g) {
        List<Op> makers = makers(g);
        List<Set<Op>> found = new ArrayList<>();
        for (int signs = 1; signs < 1 << makers.size(); signs++) {
            Map<Op, Integer> sign = new TreeMap<>();
            sign.put(SAME, 0);
            List<Op> queue = new ArrayList<>(List.of(SAME));
            boolean fine = true;
            for (int i = 0; i < queue.size() && fine; i++) {
                for (int k = 0; k < makers.size() && fine; k++) {
                    Op p = queue.get(i).times(makers.get(k));
                    int s = sign.get(queue.get(i)) ^ (signs >> k & 1);
                    if (!sign.containsKey(p)) {
                        sign.put(p, s);
                        queue.add(p);
                    }
                    fine = sign.get(p) == s;
                }
            }
            if (fine) {
                Set<Op> half = new TreeSet<>();
                for (Op o : g) {
                    if (sign.get(o) == 0) {
                        half.add(o);
                    }
                }
                found.add(half);
            }
        }
        found.sort((a, b) -> {
            for (Op o : g) {
                if (a.contains(o) != b.contains(o)) {
                    return a.contains(o) ? -1 : 1;
                }
            }
            return 0;
        });
        return found;
    }

    private static List<Op> makers(List<Op> g) {
        List<Op> makers = new ArrayList<>();
        Set<Op> made = new TreeSet<>(Set.of(SAME));
        for (int i = g.size() - 1; i >= 0; i--) {
            if (!made.contains(g.get(i))) {
                makers.add(g.get(i));
                List<Op> queue = new ArrayList<>(made);
                for (int at = 0; at < queue.size(); at++) {
                    for (Op m : makers) {
                        Op p = m.times(queue.get(at));
                        if (made.add(p)) {
                            queue.add(p);
                        }
                    }
                }
            }
        }
        return makers;
    }

    int of(int group, int k, int what) {
        if (noGroup(group) || k < 0 || k >= groups.get(group).size()) {
            return NONE;
        }
        Op o = groups.get(group).get(k);
        int nine = 0;
        for (int i = 0; i < 9; i++) {
            nine = 3 * nine + o.n[i] + 1;
        }
        int times = 1;
        for (Op p = o; !p.equals(SAME); p = p.times(o)) {
            times++;
        }
        return switch (what) {
            case 0 -> nine;
            case 1 -> code(Arrays.copyOfRange(o.n, 9, 12));
            case 2 -> o.sort();
            case 3 -> times;
            default -> NONE;
        };
    }

    int product(int group, int i, int j) {
        if (noGroup(group)) {
            return NONE;
        }
        List<Op> g = groups.get(group);
        if (i < 0 || j < 0 || i >= g.size() || j >= g.size()) {
            return NONE;
        }
        return g.indexOf(g.get(i).times(g.get(j)));
    }

    int half(int group, int k) {
        if (noGroup(group)) {
            return NONE;
        }
        List<Set<Op>> halves = halves(groups.get(group));
        return k < 0 || k >= halves.size() ? NONE : keep(halves.get(k));
    }

    boolean within(int group, int other) {
        return !noGroup(group) && !noGroup(other) && groups.get(other).containsAll(groups.get(group));
    }

    static List<Integer> orbitOf(List<Op> g, int place) {
        Set<Integer> all = new TreeSet<>();
        for (Op o : g) {
            all.add(code(o.take(places(place))));
        }
        return new ArrayList<>(all);
    }

    int orbit(int group, int place, int what) {
        if (noGroup(group) || place < 0 || place > 13823) {
            return NONE;
        }
        List<Op> g = groups.get(group);
        List<Op> keepers = new ArrayList<>();
        for (Op o : g) {
            if (code(o.take(places(place))) == place) {
                keepers.add(o);
            }
        }
        List<Integer> orbit = orbitOf(g, place);
        return what == -1 ? orbit.size() : what == -2 ? keepers.size() : what == -3 ? classOf(keepers)
            : what < 0 || what >= orbit.size() ? NONE : orbit.get(what);
    }

    int wave(int group, int h, int k, int l, int what) {
        if (noGroup(group) || far(h) || far(k) || far(l) || what < 0 || what > 2) {
            return NONE;
        }
        List<Integer> own = List.of(h, k, l);
        List<Integer> back = List.of(-h, -k, -l);
        Set<List<Integer>> star = new HashSet<>();
        int absent = 0;
        int fixed = NONE;
        for (Op o : groups.get(group)) {
            List<Integer> to = new ArrayList<>();
            List<Integer> opposite = new ArrayList<>();
            int turn = 0;
            for (int j = 0; j < 3; j++) {
                int sum = 0;
                for (int i = 0; i < 3; i++) {
                    sum += own.get(i) * o.at(i, j);
                }
                to.add(sum);
                opposite.add(-sum);
                turn += own.get(j) * o.n[9 + j];
            }
            turn = Math.floorMod(turn, 24);
            star.add(to);
            star.add(opposite);
            if (to.equals(own) && turn != 0) {
                absent = 1;
            }
            if (to.equals(back) && fixed == NONE) {
                fixed = turn;
            }
        }
        return what == 0 ? absent : what == 1 ? star.size() : fixed;
    }

    static boolean far(int n) {
        return n < -60 || n > 60;
    }

    // ---- cells ----

    static long[][] rows(long[] six) {
        return new long[][] {{six[0], six[5], six[4]}, {six[5], six[1], six[3]}, {six[4], six[3], six[2]}};
    }

    static long det(long[][] r) {
        return r[0][0] * r[1][1] * r[2][2] + r[0][1] * r[1][2] * r[2][0] + r[0][2] * r[1][0] * r[2][1]
            - r[0][2] * r[1][1] * r[2][0] - r[0][0] * r[1][2] * r[2][1] - r[0][1] * r[1][0] * r[2][2];
    }

    static long dot(long[] six, long[] u, long[] v) {
        long[][] g = rows(six);
        long sum = 0;
        for (int i = 0; i < 3; i++) {
            for (int j = 0; j < 3; j++) {
                sum += u[i] * g[i][j] * v[j];
            }
        }
        return sum;
    }

    static long[] made(long[] six, long[] u, long[] v, long[] w) {
        return new long[] {dot(six, u, u), dot(six, v, v), dot(six, w, w), dot(six, v, w), dot(six, u, w),
            dot(six, u, v)};
    }

    int cell(int a, int b, int c, int d, int e, int f) {
        for (int n : new int[] {a, b, c}) {
            if (n < 1 || n > 10000) {
                return NONE;
            }
        }
        for (int n : new int[] {d, e, f}) {
            if (n < -10000 || n > 10000) {
                return NONE;
            }
        }
        long[] six = {a, b, c, d, e, f};
        if (cells.size() == 40 || six[0] * six[1] - six[5] * six[5] <= 0 || det(rows(six)) <= 0) {
            return NONE;
        }
        cells.add(six);
        return cells.size() - 1;
    }

    boolean noCell(int cell) {
        return cell < 0 || cell >= cells.size();
    }

    /** The steps as a machine that stands at one of them, with the conditions in the document's order. */
    static long[] reduce(long[] six) {
        long a = six[0];
        long b = six[1];
        long c = six[2];
        long x = 2 * six[3];
        long y = 2 * six[4];
        long z = 2 * six[5];
        int step = 1;
        while (step < 9) {
            long ax = Math.abs(x);
            long ay = Math.abs(y);
            long az = Math.abs(z);
            long[] was = {a, b, c, x, y, z};
            int next = step + 1;
            if (step == 1 && (a > b || (a == b && ax > ay))) {
                a = was[1];
                b = was[0];
                x = was[4];
                y = was[3];
            } else if (step == 2 && (b > c || (b == c && ay > az))) {
                b = was[2];
                c = was[1];
                y = was[5];
                z = was[4];
                next = 1;
            } else if (step == 3) {
                int negative = (x < 0 ? 1 : 0) + (y < 0 ? 1 : 0) + (z < 0 ? 1 : 0);
                boolean above = x != 0 && y != 0 && z != 0 && negative % 2 == 0;
                x = above ? ax : -ax;
                y = above ? ay : -ay;
                z = above ? az : -az;
                next = 5;
            } else if (step == 5 && (ax > b || (x == b && 2 * y < z) || (x == -b && z < 0))) {
                long s = x < 0 ? -1 : 1;
                c = was[1] + was[2] - s * was[3];
                y = was[4] - s * was[5];
                x = was[3] - 2 * s * was[1];
                next = 1;
            } else if (step == 6 && (ay > a || (y == a && 2 * x < z) || (y == -a && z < 0))) {
                long s = y < 0 ? -1 : 1;
                c = was[0] + was[2] - s * was[4];
                x = was[3] - s * was[5];
                y = was[4] - 2 * s * was[0];
                next = 1;
            } else if (step == 7 && (az > a || (z == a && 2 * x < y) || (z == -a && y < 0))) {
                long s = z < 0 ? -1 : 1;
                b = was[0] + was[1] - s * was[5];
                x = was[3] - s * was[4];
                z = was[5] - 2 * s * was[0];
                next = 1;
            } else if (step == 8) {
                long s = x + y + z + a + b;
                if (s < 0 || (s == 0 && 2 * (a + y) + z > 0)) {
                    c = was[2] + s;
                    x = 2 * was[1] + was[3] + was[5];
                    y = 2 * was[0] + was[4] + was[5];
                    next = 1;
                }
            }
            step = next;
        }
        return new long[] {a, b, c, x / 2, y / 2, z / 2};
    }

    static boolean keeps(int[] m, long[] six) {
        long[][] columns = new long[3][3];
        for (int i = 0; i < 9; i++) {
            columns[i % 3][i / 3] = m[i];
        }
        return Arrays.equals(six, made(six, columns[0], columns[1], columns[2]));
    }

    private final Map<List<Long>, Integer> symmetries = new java.util.HashMap<>();

    private int symmetry(long[] low) {
        List<Long> key = new ArrayList<>();
        for (long n : low) {
            key.add(n);
        }
        Integer known = symmetries.get(key);
        if (known != null) {
            return known;
        }
        int count = 0;
        for (int nine = 0; nine < 19683; nine++) {
            int[] m = new int[12];
            for (int i = 0, rest = nine; i < 9; i++, rest /= 3) {
                m[i] = rest % 3 - 1;
            }
            if (Math.abs(new Op(m).det()) == 1 && keeps(m, low)) {
                count++;
            }
        }
        symmetries.put(key, count);
        return count;
    }

    long reduced(int cell, int what) {
        if (noCell(cell) || what < 0 || what > 7) {
            return 0;
        }
        long[] low = reduce(cells.get(cell));
        return what < 6 ? low[what] : what == 6 ? symmetry(low) : det(rows(cells.get(cell)));
    }

    boolean fits(int group, int cell) {
        if (noGroup(group) || noCell(cell)) {
            return false;
        }
        for (Op o : groups.get(group)) {
            if (!keeps(o.n, cells.get(cell))) {
                return false;
            }
        }
        return true;
    }

    private List<long[]> multiplesOf(int cell, int n) {
        TreeSet<long[]> all = new TreeSet<>(Arrays::compare);
        for (long p = 1; p <= n; p++) {
            for (long r = 1; r <= n; r++) {
                for (long u = 1; u <= n; u++) {
                    if (p * r * u != n) {
                        continue;
                    }
                    for (long q = 0; q < p; q++) {
                        for (long s = 0; s < p; s++) {
                            for (long t = 0; t < r; t++) {
                                all.add(reduce(made(cells.get(cell), new long[] {p, 0, 0}, new long[] {q, r, 0},
                                    new long[] {s, t, u})));
                            }
                        }
                    }
                }
            }
        }
        return new ArrayList<>(all);
    }

    int multiples(int cell, int n) {
        return noCell(cell) || n < 1 || n > 12 ? NONE : multiplesOf(cell, n).size();
    }

    long multiple(int cell, int n, int k, int what) {
        if (noCell(cell) || n < 1 || n > 12 || what < 0 || what > 5) {
            return 0;
        }
        List<long[]> all = multiplesOf(cell, n);
        return k < 0 || k >= all.size() ? 0 : all.get(k)[what];
    }

    // ---- models ----

    int model(int group, int cell) {
        if (models.size() == 20 || !fits(group, cell)) {
            return NONE;
        }
        Atoms m = new Atoms();
        m.group = groups.get(group);
        m.cell = cells.get(cell);
        models.add(m);
        return models.size() - 1;
    }

    boolean noModel(int model) {
        return model < 0 || model >= models.size();
    }

    boolean noPlaced(int model, int i) {
        return noModel(model) || i < 0 || i >= models.get(model).places.size();
    }

    int atom(int model, int weight, int place) {
        if (noModel(model) || weight < -99 || weight > 99 || weight == 0 || place < 0 || place > 13823) {
            return NONE;
        }
        Atoms m = models.get(model);
        List<Integer> orbit = orbitOf(m.group, place);
        for (int[] p : m.places) {
            if (orbit.contains(code(p))) {
                return NONE;
            }
        }
        if (m.weights.size() == 30 || m.places.size() + orbit.size() > 300) {
            return NONE;
        }
        for (int at : orbit) {
            m.places.add(places(at));
            m.owners.add(m.weights.size());
        }
        m.weights.add(weight);
        return m.places.size();
    }

    int placed(int model, int i, int what) {
        if (noPlaced(model, i)) {
            return NONE;
        }
        Atoms m = models.get(model);
        int owner = m.owners.get(i);
        return what == 0 ? code(m.places.get(i)) : what == 1 ? m.weights.get(owner) : what == 2 ? owner : NONE;
    }

    static long[] add(long[] a, long[] b) {
        return new long[] {a[0] + b[0], a[1] + b[1], a[2] + b[2], a[3] + b[3]};
    }

    /** The product of a0 + a1 2' + a2 3' + a3 6' and another one; bit 1 of an index is 2', bit 2 is 3'. */
    static long[] times(long[] a, long[] b) {
        long[] r = new long[4];
        for (int i = 0; i < 4; i++) {
            for (int j = 0; j < 4; j++) {
                long both = (i & j & 1) == 1 ? 2 : 1;
                both *= (i & j & 2) == 2 ? 3 : 1;
                r[i ^ j] += both * a[i] * b[j];
            }
        }
        return r;
    }

    static long[] scaled(long[] a, long by) {
        return new long[] {a[0] * by, a[1] * by, a[2] * by, a[3] * by};
    }

    /** Four times cosine and sine of each 24th, by turning on and on by the first of them, (6' + 2') / 4. */
    static final long[][][] TURNS = turns();

    static long[][][] turns() {
        long[] cos = {0, 1, 0, 1};
        long[] sin = {0, -1, 0, 1};
        long[][][] all = new long[24][][];
        long[] c = {4, 0, 0, 0};
        long[] s = {0, 0, 0, 0};
        for (int t = 0; t < 24; t++) {
            all[t] = new long[][] {c, s};
            long[] nc = add(times(c, cos), scaled(times(s, sin), -1));
            long[] ns = add(times(c, sin), times(s, cos));
            for (int i = 0; i < 4; i++) {
                if (nc[i] % 4 != 0 || ns[i] % 4 != 0) {
                    throw new IllegalStateException("the turns are not whole");
                }
                nc[i] /= 4;
                ns[i] /= 4;
            }
            c = nc;
            s = ns;
        }
        return all;
    }

    static long[][] waveOf(Atoms m, int h, int k, int l) {
        long[] cos = new long[4];
        long[] sin = new long[4];
        for (int i = 0; i < m.places.size(); i++) {
            int[] p = m.places.get(i);
            long[][] turn = TURNS[Math.floorMod(h * p[0] + k * p[1] + l * p[2], 24)];
            int weight = m.weights.get(m.owners.get(i));
            cos = add(cos, scaled(turn[0], weight));
            sin = add(sin, scaled(turn[1], weight));
        }
        return new long[][] {cos, sin, add(times(cos, cos), times(sin, sin))};
    }

    long amplitude(int model, int h, int k, int l, int what) {
        if (noModel(model) || far(h) || far(k) || far(l) || what < 0 || what > 11) {
            return 0;
        }
        return waveOf(models.get(model), h, k, l)[what / 4][what % 4];
    }

    /** The products with itself of j less i, over the cells around; of i and i without its own. */
    private static List<Long> between(Atoms m, int i, int j) {
        List<Long> all = new ArrayList<>();
        for (int x = -24; x <= 24; x += 24) {
            for (int y = -24; y <= 24; y += 24) {
                for (int z = -24; z <= 24; z += 24) {
                    int[] p = m.places.get(i);
                    int[] q = m.places.get(j);
                    long[] v = {q[0] - p[0] + x, q[1] - p[1] + y, q[2] - p[2] + z};
                    if (v[0] != 0 || v[1] != 0 || v[2] != 0) {
                        all.add(dot(m.cell, v, v));
                    }
                }
            }
        }
        return all;
    }

    long distance(int model, int i, int j) {
        return noPlaced(model, i) || noPlaced(model, j) ? 0 : Collections.min(between(models.get(model), i, j));
    }

    int near(int model, int i, long r) {
        if (noPlaced(model, i)) {
            return NONE;
        }
        Atoms m = models.get(model);
        int count = 0;
        for (int j = 0; j < m.places.size(); j++) {
            for (long d : between(m, i, j)) {
                count += d <= r ? 1 : 0;
            }
        }
        return count;
    }

    private static List<long[]> linesOf(Atoms m, int most) {
        long a = m.cell[0];
        long b = m.cell[1];
        long c = m.cell[2];
        long d = m.cell[3];
        long e = m.cell[4];
        long f = m.cell[5];
        long[] back = {b * c - d * d, a * c - e * e, a * b - f * f, e * f - a * d, d * f - b * e, d * e - c * f};
        TreeMap<Long, long[]> all = new TreeMap<>();
        for (int h = -most; h <= most; h++) {
            for (int k = -most; k <= most; k++) {
                for (int l = -most; l <= most; l++) {
                    long[] power = waveOf(m, h, k, l)[2];
                    boolean some = power[0] != 0 || power[1] != 0 || power[2] != 0 || power[3] != 0;
                    if (some && (h != 0 || k != 0 || l != 0)) {
                        long q = dot(back, new long[] {h, k, l}, new long[] {h, k, l});
                        long[] row = all.computeIfAbsent(q, key -> new long[] {key, 0, 0, 0, 0, 0});
                        row[1]++;
                        for (int i = 0; i < 4; i++) {
                            row[2 + i] += power[i];
                        }
                    }
                }
            }
        }
        return new ArrayList<>(all.values());
    }

    int lines(int model, int m) {
        return noModel(model) || m < 1 || m > 6 ? NONE : linesOf(models.get(model), m).size();
    }

    long line(int model, int m, int k, int what) {
        if (noModel(model) || m < 1 || m > 6 || what < 0 || what > 5) {
            return 0;
        }
        List<long[]> all = linesOf(models.get(model), m);
        return k < 0 || k >= all.size() ? 0 : all.get(k)[what];
    }

    long map(int model, int place) {
        if (noModel(model) || place < 0 || place > 13823) {
            return 0;
        }
        Atoms m = models.get(model);
        long sum = 0;
        for (int i = 0; i < m.places.size(); i++) {
            for (int j = 0; j < m.places.size(); j++) {
                int[] u = new int[3];
                for (int k = 0; k < 3; k++) {
                    u[k] = Math.floorMod(m.places.get(j)[k] - m.places.get(i)[k], 24);
                }
                if (code(u) == place) {
                    sum += (long) m.weights.get(m.owners.get(i)) * m.weights.get(m.owners.get(j));
                }
            }
        }
        return sum;
    }

    // ---- phases ----

    int phase(int p, int q, long energy) {
        if (phases.size() == 40 || p < 0 || p > 99 || q < 0 || q > 99 || p == 0 && q == 0
            || energy < -100_000_000L || energy > 100_000_000L) {
            return NONE;
        }
        phases.add(new long[] {p, q, energy});
        return phases.size() - 1;
    }

    /** A fraction, its lower number above 0, in lowest terms. */
    record Part(BigInteger up, BigInteger low) {
        static Part of(BigInteger up, BigInteger low) {
            BigInteger g = up.gcd(low).multiply(BigInteger.valueOf(low.signum()));
            return new Part(up.divide(g), low.divide(g));
        }

        static Part of(long up, long low) {
            return of(BigInteger.valueOf(up), BigInteger.valueOf(low));
        }

        Part minus(Part o) {
            return of(up.multiply(o.low).subtract(o.up.multiply(low)), low.multiply(o.low));
        }

        Part plus(Part o) {
            return minus(of(o.up.negate(), o.low));
        }

        Part times(Part o) {
            return of(up.multiply(o.up), low.multiply(o.low));
        }

        Part over(Part o) {
            return of(up.multiply(o.low), low.multiply(o.up));
        }

        int sign() {
            return up.signum();
        }
    }

    /** The corners of the hull, from the least share on, and then the line between two of them. */
    private Part aboveOf(int phase) {
        TreeMap<Part, Part> least = new TreeMap<>((a, b) -> a.minus(b).sign());
        for (long[] f : phases) {
            least.merge(Part.of(f[1], f[0] + f[1]), Part.of(f[2], f[0] + f[1]),
                (a, b) -> a.minus(b).sign() < 0 ? a : b);
        }
        List<Part[]> corners = new ArrayList<>();
        for (Map.Entry<Part, Part> e : least.entrySet()) {
            Part[] next = {e.getKey(), e.getValue()};
            while (corners.size() > 1 && !turnsUp(corners.get(corners.size() - 2), corners.get(corners.size() - 1), next)) {
                corners.remove(corners.size() - 1);
            }
            corners.add(next);
        }
        long[] f = phases.get(phase);
        Part share = Part.of(f[1], f[0] + f[1]);
        Part level = Part.of(f[2], f[0] + f[1]);
        for (int i = 0; i < corners.size(); i++) {
            if (corners.get(i)[0].minus(share).sign() == 0) {
                return level.minus(corners.get(i)[1]);
            }
            if (corners.get(i)[0].minus(share).sign() > 0) {
                Part[] a = corners.get(i - 1);
                Part[] b = corners.get(i);
                Part slope = b[1].minus(a[1]).over(b[0].minus(a[0]));
                return level.minus(a[1].plus(slope.times(share.minus(a[0]))));
            }
        }
        throw new IllegalStateException("a share beyond the hull");
    }

    private static boolean turnsUp(Part[] a, Part[] b, Part[] c) {
        Part one = b[1].minus(a[1]).over(b[0].minus(a[0]));
        Part two = c[1].minus(b[1]).over(c[0].minus(b[0]));
        return two.minus(one).sign() > 0;
    }

    long above(int phase, int what) {
        if (what == 2) {
            int count = 0;
            for (int i = 0; i < phases.size(); i++) {
                count += aboveOf(i).sign() == 0 ? 1 : 0;
            }
            return count;
        }
        if (phase < 0 || phase >= phases.size() || what < 0 || what > 1) {
            return 0;
        }
        Part part = aboveOf(phase);
        return (what == 0 ? part.up() : part.low()).longValueExact();
    }
}

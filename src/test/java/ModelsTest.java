/** Promises 24 to 32: models, their atoms, waves, lines, distances and maps. */
public final class ModelsTest {
    private static final int NONE = CrystalHouse.NONE;
    private static final Due DUE = new Due();

    public static void main(String[] args) {
        model();
        atom();
        atomsUntilFull();
        placed();
        amplitude();
        amplitudeAgainstDoubles();
        distance();
        near();
        lines();
        line();
        linesOfNewAtoms();
        map();
        DUE.close("promises 24 to 32 hold");
    }

    /** A house with a model of one group, told by texts, and a cell. */
    private static CrystalHouse house(int[] six, String... texts) {
        CrystalHouse house = new CrystalHouse();
        Due.group(house, texts);
        house.cell(six[0], six[1], six[2], six[3], six[4], six[5]);
        DUE.is("model(0, 0)", house.model(0, 0), 0);
        return house;
    }

    private static CrystalHouse salt() {
        CrystalHouse house = house(new int[] {32, 32, 32, 0, 0, 0}, "z,x,y", "-y,x,z", "-x,-y,-z", "x+1/2,y+1/2,z",
            "x,y+1/2,z+1/2");
        DUE.is("atom of sodium", house.atom(0, 11, 0), 4);
        DUE.is("atom of chlorine", house.atom(0, 17, Due.place(12, 12, 12)), 8);
        return house;
    }

    private static void model() {
        DUE.promise(24);
        CrystalHouse house = new CrystalHouse();
        DUE.is("model of nothing", house.model(0, 0), NONE);
        Due.group(house, "-y,x,z");
        DUE.is("model without a cell", house.model(0, 0), NONE);
        house.cell(4, 9, 16, 0, 0, 0);
        house.cell(4, 4, 16, 0, 0, 0);
        DUE.is("model that doesn't fit", house.model(0, 0), NONE);
        DUE.is("no cell", house.model(0, 2), NONE);
        DUE.is("no group", house.model(1, 1), NONE);
        DUE.is("group -1", house.model(-1, 1), NONE);
        DUE.is("cell -1", house.model(0, -1), NONE);
        for (int i = 0; i < 20; i++) {
            DUE.is("model(0, 1)", house.model(0, 1), i);
        }
        DUE.is("model beyond 20", house.model(0, 1), NONE);
        DUE.is("atom(19)", house.atom(19, 1, 1), 1);
        DUE.is("atom(20)", house.atom(20, 1, 1), NONE);
    }

    private static void atom() {
        DUE.promise(25);
        CrystalHouse house = house(new int[] {4, 9, 16, 0, 0, 0}, "-x,-y,-z");
        DUE.is("atom at 0", house.atom(0, 99, 0), 1);
        DUE.is("atom at 1 2 3", house.atom(0, -99, Due.place(1, 2, 3)), 3);
        DUE.is("atom at a taken place", house.atom(0, 5, 0), NONE);
        DUE.is("atom at the other taken one", house.atom(0, 5, Due.place(23, 22, 21)), NONE);
        DUE.is("weight 0", house.atom(0, 0, 1), NONE);
        DUE.is("weight 100", house.atom(0, 100, 1), NONE);
        DUE.is("weight -100", house.atom(0, -100, 1), NONE);
        DUE.is("place -1", house.atom(0, 1, -1), NONE);
        DUE.is("place 13824", house.atom(0, 1, 13824), NONE);
        DUE.is("no model", house.atom(1, 1, 1), NONE);
        DUE.is("model -1", house.atom(-1, 1, 1), NONE);
        DUE.is("atom at 13823", house.atom(0, 1, 13823), 5);
        DUE.is("the same place in another model", house.model(0, 0), 1);
        DUE.is("atom of model 1 at 0", house.atom(1, 5, 0), 1);
    }

    private static void atomsUntilFull() {
        DUE.promise(25);
        CrystalHouse thirty = house(new int[] {4, 9, 16, 0, 0, 0}, "x,y,z");
        for (int i = 0; i < 30; i++) {
            DUE.is("atom(0, 1, " + i + ")", thirty.atom(0, 1, i), i + 1);
            DUE.is("a refused one doesn't count", thirty.atom(0, 1, i), NONE);
        }
        DUE.is("atom beyond 30", thirty.atom(0, 1, 30), NONE);
        CrystalHouse many = house(new int[] {4, 4, 4, 0, 0, 0}, "z,x,y", "-y,x,z", "-x,-y,-z", "x+1/2,y+1/2,z+1/2");
        DUE.is("96", many.atom(0, 1, Due.place(1, 2, 3)), 96);
        DUE.is("192", many.atom(0, 2, Due.place(1, 2, 5)), 192);
        DUE.is("288", many.atom(0, 3, Due.place(1, 2, 7)), 288);
        DUE.is("beyond 300", many.atom(0, 4, Due.place(1, 3, 5)), NONE);
        DUE.is("beyond 300", many.atom(0, 4, Due.place(1, 1, 1)), NONE);
        DUE.is("300", many.atom(0, 4, Due.place(0, 0, 3)), 300);
        DUE.is("302", many.atom(0, 4, 0), NONE);
        DUE.is("the last", many.placed(0, 299, 2), 3);
        DUE.is("beyond the last", many.placed(0, 300, 2), NONE);
    }

    private static void placed() {
        DUE.promise(26);
        CrystalHouse house = house(new int[] {4, 9, 16, 0, 0, 0}, "-x,y+1/2,-z+1/2", "-x,-y,-z");
        DUE.is("placed of none", house.placed(0, 0, 0), NONE);
        house.atom(0, -1, Due.place(0, 12, 12));
        house.atom(0, 7, 0);
        house.atom(0, 8, Due.place(1, 2, 3));
        int[] places = {0, 300, Due.place(1, 2, 3), Due.place(1, 10, 15), Due.place(23, 14, 9), Due.place(23, 22, 21)};
        for (int i = 0; i < 6; i++) {
            DUE.is("the place of " + i, house.placed(0, i, 0), places[i]);
            DUE.is("the weight of " + i, house.placed(0, i, 1), i < 2 ? -1 : 8);
            DUE.is("the atom of " + i, house.placed(0, i, 2), i < 2 ? 0 : 1);
        }
        DUE.is("placed(0, 6, 0)", house.placed(0, 6, 0), NONE);
        DUE.is("placed(0, -1, 0)", house.placed(0, -1, 0), NONE);
        DUE.is("placed(1, 0, 0)", house.placed(1, 0, 0), NONE);
        DUE.is("placed(-1, 0, 0)", house.placed(-1, 0, 0), NONE);
        DUE.is("placed(0, 2, 3)", house.placed(0, 2, 3), NONE);
        DUE.is("placed(0, 2, -1)", house.placed(0, 2, -1), NONE);
    }

    private static void wave(CrystalHouse house, int h, int k, int l, long... due) {
        for (int what = 0; what < 12; what++) {
            DUE.is("amplitude(0, " + h + ", " + k + ", " + l + ", " + what + ")", house.amplitude(0, h, k, l, what), due[what]);
        }
    }

    private static void amplitude() {
        DUE.promise(27);
        CrystalHouse one = house(new int[] {4, 9, 16, 0, 0, 0}, "x,y,z");
        one.atom(0, 3, Due.place(1, 0, 0));
        // An atom alone has a power of 16 times its weight squared, wherever it is.
        wave(one, 0, 0, 0, 12, 0, 0, 0, 0, 0, 0, 0, 144, 0, 0, 0);
        wave(one, 1, 0, 0, 0, 3, 0, 3, 0, -3, 0, 3, 144, 0, 0, 0);
        wave(one, 2, 5, -60, 0, 0, 6, 0, 6, 0, 0, 0, 144, 0, 0, 0);
        wave(one, 3, 0, 0, 0, 6, 0, 0, 0, 6, 0, 0, 144, 0, 0, 0);
        wave(one, -5, 0, 0, 0, -3, 0, 3, 0, -3, 0, -3, 144, 0, 0, 0);
        wave(one, 6, 0, 0, 0, 0, 0, 0, 12, 0, 0, 0, 144, 0, 0, 0);
        wave(one, 60, 60, 60, -12, 0, 0, 0, 0, 0, 0, 0, 144, 0, 0, 0);
        wave(one, 13, 0, 0, 0, -3, 0, -3, 0, 3, 0, -3, 144, 0, 0, 0);
        one.atom(0, 1, 0);
        // |3 e + 1|^2 is 10 + 6 cos 15, 16 times that is 160 + 24 (6' + 2').
        wave(one, 1, 0, 0, 4, 3, 0, 3, 0, -3, 0, 3, 160, 24, 0, 24);
        wave(one, 2, 0, 0, 4, 0, 6, 0, 6, 0, 0, 0, 160, 0, 48, 0);
        DUE.is("what 12", one.amplitude(0, 0, 0, 0, 12), 0);
        DUE.is("what -1", one.amplitude(0, 0, 0, 0, -1), 0);
        DUE.is("61 0 0", one.amplitude(0, 61, 0, 0, 0), 0);
        DUE.is("0 -61 0", one.amplitude(0, 0, -61, 0, 0), 0);
        DUE.is("0 0 61", one.amplitude(0, 0, 0, 61, 0), 0);
        DUE.is("no model", one.amplitude(1, 0, 0, 0, 0), 0);
        DUE.is("model -1", one.amplitude(-1, 0, 0, 0, 0), 0);
        CrystalHouse salt = salt();
        DUE.is("salt 1 1 1", salt.amplitude(0, 1, 1, 1, 0), 4 * 4 * (11 - 17));
        DUE.is("salt 2 0 0", salt.amplitude(0, 2, 0, 0, 0), 4 * 4 * (11 + 17));
        DUE.is("salt 1 0 0", salt.amplitude(0, 1, 0, 0, 8), 0);
        DUE.is("salt 1 1 1, power", salt.amplitude(0, 1, 1, 1, 8), 96 * 96);
        CrystalHouse empty = house(new int[] {4, 9, 16, 0, 0, 0}, "x,y,z");
        wave(empty, 0, 0, 0, 0, 0, 0, 0, 0, 0, 0, 0, 0, 0, 0, 0);
    }

    private static double exact(CrystalHouse house, int h, int k, int l, int from) {
        return house.amplitude(0, h, k, l, from) + house.amplitude(0, h, k, l, from + 1) * Math.sqrt(2)
            + house.amplitude(0, h, k, l, from + 2) * Math.sqrt(3) + house.amplitude(0, h, k, l, from + 3) * Math.sqrt(6);
    }

    private static void amplitudeAgainstDoubles() {
        DUE.promise(27);
        Numbers numbers = new Numbers(11);
        for (int turn = 0; turn < 30; turn++) {
            CrystalHouse house = house(new int[] {4, 4, 4, 0, 0, 0}, "z,x,y", "-x,-y,z");
            for (int i = 0; i < 5; i++) {
                house.atom(0, numbers.from(1, 50), numbers.below(13824));
            }
            int h = numbers.from(-60, 60);
            int k = numbers.from(-60, 60);
            int l = numbers.from(-60, 60);
            double cos = 0;
            double sin = 0;
            for (int i = 0; house.placed(0, i, 0) != NONE; i++) {
                int place = house.placed(0, i, 0);
                double angle = 2 * Math.PI * (h * (place / 576) + k * (place / 24 % 24) + l * (place % 24)) / 24;
                cos += 4 * house.placed(0, i, 1) * Math.cos(angle);
                sin += 4 * house.placed(0, i, 1) * Math.sin(angle);
            }
            DUE.is("cosines", Math.abs(exact(house, h, k, l, 0) - cos) < 1e-6, true);
            DUE.is("sines", Math.abs(exact(house, h, k, l, 4) - sin) < 1e-6, true);
            DUE.is("power", Math.abs(exact(house, h, k, l, 8) - cos * cos - sin * sin) < 1e-3, true);
        }
    }

    private static void distance() {
        DUE.promise(28);
        CrystalHouse house = house(new int[] {4, 9, 16, 0, 0, 0}, "x,y,z");
        house.atom(0, 1, 0);
        house.atom(0, 1, Due.place(23, 0, 0));
        house.atom(0, 1, Due.place(12, 12, 12));
        DUE.is("distance(0, 1)", house.distance(0, 0, 1), 4);
        DUE.is("distance(1, 0)", house.distance(0, 1, 0), 4);
        DUE.is("distance(0, 2)", house.distance(0, 0, 2), 144 * 29);
        DUE.is("distance(0, 0)", house.distance(0, 0, 0), 576 * 4);
        DUE.is("distance(2, 2)", house.distance(0, 2, 2), 576 * 4);
        DUE.is("distance(0, 3)", house.distance(0, 0, 3), 0);
        DUE.is("distance(3, 0)", house.distance(0, 3, 0), 0);
        DUE.is("distance(-1, 0)", house.distance(0, -1, 0), 0);
        DUE.is("distance(0, -1)", house.distance(0, 0, -1), 0);
        DUE.is("no model", house.distance(1, 0, 0), 0);
        house.atom(0, 1, 13823);
        house.atom(0, 1, Due.place(1, 23, 1));
        DUE.is("the nearest is in the cell behind all edges", house.distance(0, 0, 3), 29);
        DUE.is("the nearest is in the cell ahead of all edges", house.distance(0, 3, 0), 29);
        DUE.is("the nearest is in a mixed cell", house.distance(0, 3, 4), 4 * (4 + 16));
        // The six as they were told count, and only the cells beside: this one is very slanted.
        CrystalHouse slanted = house(new int[] {1, 10, 10, 0, 0, 3}, "x,y,z");
        slanted.atom(0, 1, 0);
        slanted.atom(0, 1, Due.place(0, 12, 0));
        DUE.is("slanted distance(0, 0)", slanted.distance(0, 0, 0), 576);
        DUE.is("slanted distance(0, 1)", slanted.distance(0, 0, 1), 144 * 10 + 576 - 2 * 3 * 12 * 24);
    }

    private static void near() {
        DUE.promise(29);
        CrystalHouse salt = salt();
        // 32 / 4 in edges, times 576.
        long r = 32 / 4 * 576;
        DUE.is("near salt", salt.near(0, 0, r), 6);
        DUE.is("just below", salt.near(0, 0, r - 1), 0);
        DUE.is("near salt, the next ones", salt.near(0, 0, 2 * r), 6 + 12);
        DUE.is("near salt, the next ones", salt.near(0, 0, 3 * r), 6 + 12 + 8);
        DUE.is("near salt, and itself beside", salt.near(0, 7, 4 * r), 6 + 12 + 8 + 6);
        DUE.is("near below 0", salt.near(0, 0, -1), 0);
        DUE.is("near 0", salt.near(0, 0, 0), 0);
        DUE.is("near the least", salt.near(0, 0, Long.MIN_VALUE), 0);
        DUE.is("near all", salt.near(0, 0, Long.MAX_VALUE), 8 * 27 - 1);
        DUE.is("near(0, 8)", salt.near(0, 8, r), NONE);
        DUE.is("near(0, -1)", salt.near(0, -1, r), NONE);
        DUE.is("near(1, 0)", salt.near(1, 0, r), NONE);
        DUE.is("near(-1, 0)", salt.near(-1, 0, r), NONE);
    }

    private static void lines() {
        DUE.promise(30);
        CrystalHouse salt = salt();
        // All odd or all even: 1 1 1, 2 0 0, 2 2 0, 2 2 2 within 2; 3 1 1, 3 3 1, 3 3 3 more within 3.
        DUE.is("lines within 1", salt.lines(0, 1), 1);
        DUE.is("lines within 2", salt.lines(0, 2), 4);
        DUE.is("lines within 3", salt.lines(0, 3), 7);
        DUE.is("lines within 0", salt.lines(0, 0), NONE);
        DUE.is("lines within 7", salt.lines(0, 7), NONE);
        DUE.is("no model", salt.lines(1, 1), NONE);
        DUE.is("model -1", salt.lines(-1, 1), NONE);
        CrystalHouse skew = house(new int[] {1009, 2003, 3001, 101, 57, 211}, "x,y,z");
        DUE.is("lines of nothing", skew.lines(0, 6), 0);
        skew.atom(0, 1, 0);
        DUE.is("lines of one atom", skew.lines(0, 6), 1098);
    }

    private static void line() {
        DUE.promise(31);
        CrystalHouse salt = salt();
        // Q is 32 * 32 times h h + k k + l l; 16 times the square of 4 (11 - 17) or of 4 (11 + 17), so many times.
        long[][] due = {{3072, 8, 8 * 96 * 96}, {4096, 6, 6 * 448 * 448}, {8192, 12, 12 * 448 * 448}, {12288, 8, 8 * 448 * 448}};
        for (int k = 0; k < 4; k++) {
            for (int what = 0; what < 3; what++) {
                DUE.is("line(0, 2, " + k + ", " + what + ")", salt.line(0, 2, k, what), due[k][what]);
            }
            for (int what = 3; what < 6; what++) {
                DUE.is("line(0, 2, " + k + ", " + what + ")", salt.line(0, 2, k, what), 0);
            }
        }
        DUE.is("line(0, 2, 4, 0)", salt.line(0, 2, 4, 0), 0);
        DUE.is("line(0, 2, -1, 0)", salt.line(0, 2, -1, 0), 0);
        DUE.is("line(0, 2, 0, 6)", salt.line(0, 2, 0, 6), 0);
        DUE.is("line(0, 2, 0, -1)", salt.line(0, 2, 0, -1), 0);
        DUE.is("line(0, 0, 0, 0)", salt.line(0, 0, 0, 0), 0);
        DUE.is("line(0, 7, 0, 0)", salt.line(0, 7, 0, 0), 0);
        DUE.is("line(1, 2, 0, 0)", salt.line(1, 2, 0, 0), 0);
        DUE.is("line(-1, 2, 0, 0)", salt.line(-1, 2, 0, 0), 0);
        CrystalHouse two = house(new int[] {4, 9, 16, 1, 2, 3}, "x,y,z");
        two.atom(0, 3, Due.place(1, 0, 0));
        two.atom(0, 1, 0);
        // C' is A B - F F: the first line is of 0 0 1 and 0 0 -1.
        DUE.is("Q of 0 0 1", two.line(0, 1, 0, 0), 4 * 9 - 3 * 3);
        DUE.is("how many of it", two.line(0, 1, 0, 1), 2);
        DUE.is("their powers", two.line(0, 1, 0, 2), 2 * 256);
        // -1 1 0 and its opposite: A' + B' - 2 F' of 143, 60 and 2 - 48.
        long q = 4 * 9 * 16;
        for (int k = 0; k < two.lines(0, 1); k++) {
            q = two.line(0, 1, k, 0) == 143 + 60 + 2 * 46 ? k : q;
        }
        DUE.is("how many of -1 1 0", two.line(0, 1, (int) q, 1), 2);
        DUE.is("the powers of -1 1 0", two.line(0, 1, (int) q, 2), 320);
        DUE.is("the powers of -1 1 0, 2'", two.line(0, 1, (int) q, 3), 48);
        DUE.is("the powers of -1 1 0, 6'", two.line(0, 1, (int) q, 5), 48);
    }

    private static void linesOfNewAtoms() {
        DUE.promise(31);
        CrystalHouse house = house(new int[] {4, 4, 4, 0, 0, 0}, "x,y,z");
        house.atom(0, 1, 0);
        DUE.is("lines of one", house.lines(0, 1), 3);
        DUE.is("line of one", house.line(0, 1, 0, 2), 6 * 16);
        house.atom(0, -1, Due.place(12, 12, 12));
        DUE.is("lines of two", house.lines(0, 1), 2);
        DUE.is("line of two", house.line(0, 1, 0, 2), 6 * 64);
        DUE.is("the other line of two", house.line(0, 1, 1, 0), 48);
        DUE.is("lines of another m", house.lines(0, 2), 4);
        house.model(0, 0);
        DUE.is("lines of another model", house.lines(1, 1), 0);
        DUE.is("lines of two, again", house.lines(0, 1), 2);
    }

    private static void map() {
        DUE.promise(32);
        CrystalHouse salt = salt();
        DUE.is("map at 0", salt.map(0, 0), 4 * (11 * 11 + 17 * 17));
        DUE.is("map at the middle", salt.map(0, Due.place(12, 12, 12)), 8 * 11 * 17);
        DUE.is("map at a face", salt.map(0, Due.place(0, 12, 12)), 4 * (11 * 11 + 17 * 17));
        DUE.is("map elsewhere", salt.map(0, 1), 0);
        DUE.is("map at -1", salt.map(0, -1), 0);
        DUE.is("map at 13824", salt.map(0, 13824), 0);
        DUE.is("no model", salt.map(1, 0), 0);
        DUE.is("model -1", salt.map(-1, 0), 0);
        CrystalHouse two = house(new int[] {4, 9, 16, 0, 0, 0}, "x,y,z");
        DUE.is("map of nothing", two.map(0, 0), 0);
        two.atom(0, -3, Due.place(23, 1, 0));
        two.atom(0, 5, Due.place(2, 0, 0));
        DUE.is("map of j less i", two.map(0, Due.place(3, 23, 0)), -15);
        DUE.is("map of i less j", two.map(0, Due.place(21, 1, 0)), -15);
        DUE.is("map at 0", two.map(0, 0), 34);
    }
}

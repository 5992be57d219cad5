import java.util.TreeMap;

/** Each sentence about models (Terms 5, promises 24 to 32) at its boundaries. */
public final class ModelBoundariesTest {
    private static final int NONE = CrystalHouse.NONE;
    private static final int[] BRICK = {4, 9, 16, 0, 0, 0};
    private static final int[] SQUARE = {4, 4, 4, 0, 0, 0};
    private static final String[] CUBE = {"z,x,y", "-y,x,z", "-x,-y,-z"};
    private static final Due DUE = new Due();

    public static void main(String[] args) {
        modelsThatFit();
        weights();
        placesOfOrbits();
        thirtyAtoms();
        refusedAtomsDoNotCount();
        noTwoAtOnePlace();
        atMost300();
        numberedAlongOrbits();
        twentyModels();
        exactNumbers();
        sumsOfWaves();
        powers();
        leastDistances();
        distanceToItself();
        nearWithin();
        nearButItself();
        linesOfPowers();
        qOfLines();
        oneLineForEachQ();
        linesOfNewAtoms();
        mapModulo();
        modelNumber();
        modelRefused();
        atomNumber();
        atomRefused();
        placed();
        placedNone();
        weightMayBeNone();
        amplitude();
        amplitudeNone();
        distanceNone();
        nearNone();
        linesNone();
        line();
        lineNone();
        mapNone();
        DUE.close("models hold at their boundaries");
    }

    /** A house with model 0 of one group and one cell. */
    private static CrystalHouse houseOf(int[] six, String... texts) {
        CrystalHouse house = Due.houseOf(texts);
        house.cell(six[0], six[1], six[2], six[3], six[4], six[5]);
        DUE.is("model(0, 0)", house.model(0, 0), 0);
        return house;
    }

    // ---- Terms 5 ----

    private static void modelsThatFit() {
        DUE.sentence("MODELS have a GROUP and a CELL that it FITS,");
        CrystalHouse house = Due.houseOf("-y,x,z");
        house.group();
        house.cell(4, 4, 9, 0, 0, 0);
        house.cell(4, 5, 9, 0, 0, 0);
        house.cell(9, 4, 4, 0, 0, 0);
        DUE.is("one that fits", house.model(0, 0), 0);
        DUE.is("one that doesn't", house.model(0, 1), NONE);
        DUE.is("one that fits only when reduced", house.model(0, 2), NONE);
        DUE.is("the group of one fits all", house.model(1, 1), 1);
        DUE.is("an atom by the group of model 0", house.atom(0, 1, Due.place(1, 2, 3)), 4);
        DUE.is("an atom by the group of model 1", house.atom(1, 1, Due.place(1, 2, 3)), 1);
    }

    private static void weights() {
        DUE.sentence("told with a weight (-99 .. 99, not 0)");
        for (int weight = -101; weight <= 101; weight++) {
            boolean fine = weight != 0 && Math.abs(weight) <= 99;
            CrystalHouse house = houseOf(BRICK);
            DUE.is("atom of weight " + weight, house.atom(0, weight, 5), fine ? 1 : NONE);
            DUE.is("the weight of it", house.placed(0, 0, 1), fine ? weight : NONE);
        }
        CrystalHouse house = houseOf(BRICK);
        for (int weight : Due.beyond(-99, 99)) {
            DUE.is("atom of weight " + weight, house.atom(0, weight, 5), NONE);
        }
    }

    private static void placesOfOrbits() {
        DUE.sentence("and a PLACE, at whose ORBIT they are;");
        CrystalHouse house = houseOf(BRICK, "-x,-y,-z", "x+1/2,y,z");
        DUE.is("at the first place", house.atom(0, 1, 0), 2);
        DUE.is("at the last place", house.atom(0, 1, 13823), 6);
        int[] due = {0, 6912, Due.place(1, 1, 1), Due.place(11, 23, 23), Due.place(13, 1, 1), 13823};
        for (int i = 0; i < 6; i++) {
            DUE.is("place " + i, house.placed(0, i, 0), due[i]);
        }
    }

    private static void thirtyAtoms() {
        DUE.sentence("30 at most are told");
        CrystalHouse house = houseOf(BRICK);
        for (int i = 0; i < 30; i++) {
            DUE.is("atom " + i, house.atom(0, 1 + i, i), i + 1);
        }
        DUE.is("one more", house.atom(0, 1, 30), NONE);
        DUE.is("the last", house.placed(0, 29, 1), 30);
        DUE.is("behind the last", house.placed(0, 30, 1), NONE);
        DUE.is("the map is of 30", house.map(0, 0), 30 * 31 * 61 / 6);
        DUE.is("another model", house.model(0, 0), 1);
        DUE.is("its first atom", house.atom(1, 1, 0), 1);
    }

    private static void refusedAtomsDoNotCount() {
        DUE.sentence("(refused ones don't count);");
        CrystalHouse house = houseOf(BRICK);
        for (int i = 0; i < 30; i++) {
            DUE.is("a refused weight", house.atom(0, 0, i), NONE);
            DUE.is("a refused place", house.atom(0, 1, 13824 + i), NONE);
            DUE.is("atom " + i, house.atom(0, 1, i), i + 1);
            DUE.is("a taken place", house.atom(0, 1, i), NONE);
            DUE.is("which of those told", house.placed(0, i, 2), i);
        }
        CrystalHouse many = houseOf(SQUARE, CUBE);
        for (int i = 0; i < 6; i++) {
            DUE.is("48 more", many.atom(0, 1, Due.place(1, 2, 3 + i)), 48 * (i + 1));
        }
        for (int i = 0; i < 30; i++) {
            DUE.is("too many", many.atom(0, 1, Due.place(2, 4, 5)), NONE);
        }
        DUE.is("twelve more", many.atom(0, 1, Due.place(0, 12, 1)), 300);
        DUE.is("which of those told", many.placed(0, 299, 2), 6);
    }

    private static void noTwoAtOnePlace() {
        DUE.sentence("no two are at one PLACE;");
        CrystalHouse house = houseOf(BRICK, "-x,-y,-z");
        DUE.is("at 1 2 3", house.atom(0, 1, Due.place(1, 2, 3)), 2);
        DUE.is("at 1 2 3, again", house.atom(0, 2, Due.place(1, 2, 3)), NONE);
        DUE.is("at 23 22 21", house.atom(0, 2, Due.place(23, 22, 21)), NONE);
        DUE.is("beside it", house.atom(0, 2, Due.place(1, 2, 4)), 4);
        DUE.is("beside that", house.atom(0, 2, Due.place(1, 3, 3)), 6);
        DUE.is("and that", house.atom(0, 2, Due.place(2, 2, 3)), 8);
        DUE.is("at the first place", house.atom(0, 2, 0), 9);
        DUE.is("at the first place, again", house.atom(0, 2, 0), NONE);
        DUE.is("at the last place", house.atom(0, 2, 13823), 11);
        DUE.is("at the last place, again", house.atom(0, 2, 13823), NONE);
        DUE.is("at its other place", house.atom(0, 2, Due.place(1, 1, 1)), NONE);
        DUE.is("nothing was put", house.placed(0, 11, 0), NONE);
        // Of an orbit of six places, it is the last one that is taken.
        CrystalHouse cube = houseOf(SQUARE, CUBE);
        cube.atom(0, 1, Due.place(5, 0, 0));
        for (int k = 0; k < 6; k++) {
            DUE.is("at place " + k + " of an orbit", cube.atom(0, 1, cube.placed(0, k, 0)), NONE);
        }
    }

    private static void atMost300() {
        DUE.sentence("all together at most 300.");
        CrystalHouse house = houseOf(SQUARE, CUBE);
        for (int i = 0; i < 6; i++) {
            DUE.is("48 more", house.atom(0, 1, Due.place(1, 2, 3 + i)), 48 * (i + 1));
        }
        DUE.is("24 more are too many", house.atom(0, 1, Due.place(0, 1, 2)), NONE);
        DUE.is("8 more", house.atom(0, 1, Due.place(1, 1, 1)), 296);
        DUE.is("6 more are too many", house.atom(0, 1, Due.place(0, 0, 1)), NONE);
        DUE.is("3 more", house.atom(0, 1, Due.place(0, 12, 12)), 299);
        DUE.is("3 more are too many", house.atom(0, 1, Due.place(12, 0, 0)), NONE);
        DUE.is("1 more", house.atom(0, 1, 0), 300);
        DUE.is("1 more is too many", house.atom(0, 1, Due.place(12, 12, 12)), NONE);
        DUE.is("the last", house.placed(0, 299, 0), 0);
        DUE.is("behind the last", house.placed(0, 300, 0), NONE);
        DUE.is("all weights", house.amplitude(0, 0, 0, 0, 0), 1200);
    }

    private static void numberedAlongOrbits() {
        DUE.sentence("The PLACED ones are numbered from 0 on: of the ATOMS in their order, each along its ORBIT.");
        CrystalHouse house = houseOf(BRICK, "-x,-y,-z");
        house.atom(0, 7, Due.place(20, 0, 1));
        house.atom(0, 8, 0);
        house.atom(0, 9, Due.place(1, 1, 1));
        int[] places = {Due.place(4, 0, 23), Due.place(20, 0, 1), 0, Due.place(1, 1, 1), 13823};
        int[] weights = {7, 7, 8, 9, 9};
        int[] told = {0, 0, 1, 2, 2};
        for (int i = 0; i < 5; i++) {
            DUE.is("place " + i, house.placed(0, i, 0), places[i]);
            DUE.is("weight " + i, house.placed(0, i, 1), weights[i]);
            DUE.is("told " + i, house.placed(0, i, 2), told[i]);
        }
    }

    private static void twentyModels() {
        DUE.sentence("MODELS are numbered from 0 on, 20 at most.");
        CrystalHouse house = Due.houseOf();
        house.cell(4, 9, 16, 0, 0, 0);
        for (int i = 0; i < 20; i++) {
            DUE.is("model " + i, house.model(0, 0), i);
            DUE.is("a refused one has no number", house.model(0, 1), NONE);
            DUE.is("its atom", house.atom(i, 1 + i, i), 1);
        }
        DUE.is("one more", house.model(0, 0), NONE);
        DUE.is("the first", house.placed(0, 0, 1), 1);
        DUE.is("the last", house.placed(19, 0, 1), 20);
        DUE.is("behind the last", house.placed(20, 0, 1), NONE);
    }

    private static double exact(CrystalHouse house, int[] h, int from) {
        return house.amplitude(0, h[0], h[1], h[2], from) + house.amplitude(0, h[0], h[1], h[2], from + 1) * Math.sqrt(2)
            + house.amplitude(0, h[0], h[1], h[2], from + 2) * Math.sqrt(3) + house.amplitude(0, h[0], h[1], h[2], from + 3) * Math.sqrt(6);
    }

    private static void waveIs(CrystalHouse house, int[] h, long... due) {
        for (int what = 0; what < due.length; what++) {
            DUE.is("amplitude(0, " + h[0] + ", " + h[1] + ", " + h[2] + ", " + what + ")",
                house.amplitude(0, h[0], h[1], h[2], what), due[what]);
        }
    }

    private static void exactNumbers() {
        DUE.sentence("EXACT numbers: four whole ones a, b, c, d: a + b 2' + c 3' + d 6', n' being the root of n.");
        // Four times the cosine of 0 to 6 24ths: 4, 6' + 2', 2 3', 2 2', 2, 6' - 2', 0.
        long[][] cosines = {{4, 0, 0, 0}, {0, 1, 0, 1}, {0, 0, 2, 0}, {0, 2, 0, 0}, {2, 0, 0, 0}, {0, -1, 0, 1}, {0, 0, 0, 0}};
        for (int turn = 0; turn < 24; turn++) {
            CrystalHouse house = houseOf(BRICK);
            house.atom(0, 1, Due.place(turn, 0, 0));
            for (int k = 0; k < 4; k++) {
                DUE.is("cosine of " + turn + ", " + k, house.amplitude(0, 1, 0, 0, k), cosine(cosines, turn)[k]);
                DUE.is("sine of " + turn + ", " + k, house.amplitude(0, 1, 0, 0, 4 + k), cosine(cosines, turn + 18)[k]);
                DUE.is("power of " + turn + ", " + k, house.amplitude(0, 1, 0, 0, 8 + k), k == 0 ? 16 : 0);
            }
        }
    }

    /** By the first quarter: the second one is its mirror below 0, and the other half is the mirror of both. */
    private static long[] cosine(long[][] quarter, int turn) {
        int within = turn % 24;
        int half = within > 12 ? 24 - within : within;
        long[] all = quarter[half > 6 ? 12 - half : half].clone();
        for (int k = 0; k < 4; k++) {
            all[k] *= half > 6 ? -1 : 1;
        }
        return all;
    }

    private static void sumsOfWaves() {
        DUE.sentence("The WAVE of h is a pair of EXACT ones, four times the sums, over the PLACED ATOMS, of weight times cosine, and weight"
            + " times sine, of (h times PLACE) 24ths of a whole turn.");
        CrystalHouse house = houseOf(BRICK);
        waveIs(house, new int[] {1, 2, 3}, 0, 0, 0, 0, 0, 0, 0, 0, 0, 0, 0, 0);
        house.atom(0, 99, Due.place(23, 23, 23));
        house.atom(0, -99, Due.place(1, 0, 23));
        house.atom(0, 7, Due.place(0, 5, 19));
        int[][] places = {{23, 23, 23}, {1, 0, 23}, {0, 5, 19}};
        int[] weights = {99, -99, 7};
        int[][] waves = {{0, 0, 0}, {60, 60, 60}, {-60, -60, -60}, {60, -60, 59}, {1, 0, 0}, {-1, 0, 0}, {0, 0, 1}, {-59, 31, 7}};
        for (int[] h : waves) {
            double cosines = 0;
            double sines = 0;
            for (int i = 0; i < 3; i++) {
                double angle = 2 * Math.PI * (h[0] * places[i][0] + h[1] * places[i][1] + h[2] * places[i][2]) / 24;
                cosines += 4 * weights[i] * Math.cos(angle);
                sines += 4 * weights[i] * Math.sin(angle);
            }
            DUE.is("the cosines", Math.abs(exact(house, h, 0) - cosines) < 1e-6, true);
            DUE.is("the sines", Math.abs(exact(house, h, 4) - sines) < 1e-6, true);
            DUE.is("the power", Math.abs(exact(house, h, 8) - cosines * cosines - sines * sines) < 1e-4, true);
        }
        waveIs(house, new int[] {0, 0, 0}, 28, 0, 0, 0, 0, 0, 0, 0);
        waveIs(house, new int[] {24, -48, 0}, 28, 0, 0, 0, 0, 0, 0, 0);
    }

    private static void powers() {
        DUE.sentence("Its POWER: the sum of the squares of both, sixteen times that of the wave itself.");
        CrystalHouse two = houseOf(BRICK);
        two.atom(0, 3, Due.place(1, 0, 0));
        two.atom(0, 1, 0);
        // 10 + 6 cosine, times 16.
        waveIs(two, new int[] {1, 0, 0}, 4, 3, 0, 3, 0, -3, 0, 3, 160, 24, 0, 24);
        waveIs(two, new int[] {2, 0, 0}, 4, 0, 6, 0, 6, 0, 0, 0, 160, 0, 48, 0);
        waveIs(two, new int[] {3, 0, 0}, 4, 6, 0, 0, 0, 6, 0, 0, 160, 48, 0, 0);
        waveIs(two, new int[] {4, 0, 0}, 10, 0, 0, 0, 0, 0, 6, 0, 208, 0, 0, 0);
        waveIs(two, new int[] {12, 0, 0}, -8, 0, 0, 0, 0, 0, 0, 0, 64, 0, 0, 0);
        // (4 3 + 7 (6' + 2') + 11 2 3' + 13 2 2') and (7 (6' - 2') + 11 2 + 13 2 2'), each with all four of its numbers.
        CrystalHouse four = houseOf(BRICK);
        four.atom(0, 3, 0);
        four.atom(0, 7, Due.place(1, 0, 0));
        four.atom(0, 11, Due.place(2, 0, 0));
        four.atom(0, 13, Due.place(3, 0, 0));
        long[] c = {12, 33, 22, 7};
        long[] s = {22, 19, 0, 7};
        long[] power = new long[4];
        for (long[] n : new long[][] {c, s}) {
            power[0] += n[0] * n[0] + 2 * n[1] * n[1] + 3 * n[2] * n[2] + 6 * n[3] * n[3];
            power[1] += 2 * (n[0] * n[1] + 3 * n[2] * n[3]);
            power[2] += 2 * (n[0] * n[2] + 2 * n[1] * n[3]);
            power[3] += 2 * (n[0] * n[3] + n[1] * n[2]);
        }
        waveIs(four, new int[] {1, 0, 0}, c[0], c[1], c[2], c[3], s[0], s[1], s[2], s[3], power[0], power[1], power[2], power[3]);
        CrystalHouse many = houseOf(SQUARE, CUBE);
        for (int i = 0; i < 6; i++) {
            many.atom(0, 99, Due.place(1, 2, 3 + i));
        }
        many.atom(0, 99, Due.place(0, 12, 1));
        waveIs(many, new int[] {0, 0, 0}, 118800, 0, 0, 0, 0, 0, 0, 0, 118800L * 118800, 0, 0, 0);
        waveIs(many, new int[] {24, 48, -24}, 118800, 0, 0, 0, 0, 0, 0, 0, 118800L * 118800, 0, 0, 0);
    }

    private static void leastDistances() {
        DUE.sentence("The DISTANCE of PLACED i and j: the least product with itself, by the CELL, of PLACE j - PLACE i + 24 times three"
            + " numbers -1, 0 or 1, in 24ths (so 576 times that of edges);");
        CrystalHouse house = houseOf(BRICK);
        house.atom(0, 1, 0);
        house.atom(0, 1, Due.place(12, 0, 0));
        house.atom(0, 1, Due.place(13, 0, 0));
        house.atom(0, 1, 13823);
        house.atom(0, 1, Due.place(23, 1, 0));
        DUE.is("half an edge", house.distance(0, 0, 1), 144 * 4);
        DUE.is("beyond half an edge", house.distance(0, 0, 2), 121 * 4);
        DUE.is("back from beyond half an edge", house.distance(0, 2, 0), 121 * 4);
        DUE.is("beyond all edges", house.distance(0, 0, 3), 4 + 9 + 16);
        DUE.is("back from beyond all edges", house.distance(0, 3, 0), 4 + 9 + 16);
        DUE.is("beyond one edge", house.distance(0, 0, 4), 4 + 9);
        DUE.is("beyond two edges", house.distance(0, 3, 4), 4 * 9 + 16);
        // Three numbers of -1, 0 or 1 alone: two edges back there would be a nearer one.
        CrystalHouse slanted = houseOf(new int[] {1, 26, 9, 0, 0, 5});
        slanted.atom(0, 1, 0);
        slanted.atom(0, 1, Due.place(0, 12, 0));
        DUE.is("slanted", slanted.distance(0, 0, 1), 144 * 26 + 576 - 2 * 5 * 12 * 24);
        CrystalHouse mixed = houseOf(new int[] {100, 100, 100, 11, 13, 17});
        mixed.atom(0, 1, 0);
        mixed.atom(0, 1, Due.place(1, 2, 3));
        DUE.is("with mixed products", mixed.distance(0, 0, 1), 100 * 14 + 2 * (11 * 6 + 13 * 3 + 17 * 2));
        DUE.is("and back", mixed.distance(0, 1, 0), 100 * 14 + 2 * (11 * 6 + 13 * 3 + 17 * 2));
    }

    private static void distanceToItself() {
        DUE.sentence("of i to itself without 0.");
        CrystalHouse house = houseOf(BRICK);
        house.atom(0, 1, 5);
        house.atom(0, 1, 13823);
        DUE.is("of 0", house.distance(0, 0, 0), 576 * 4);
        DUE.is("of 1", house.distance(0, 1, 1), 576 * 4);
        CrystalHouse least = houseOf(new int[] {1, 1, 1, 0, 0, 0});
        least.atom(0, 1, 0);
        DUE.is("of the least cell", least.distance(0, 0, 0), 576);
        CrystalHouse greatest = houseOf(new int[] {10000, 10000, 10000, 0, 0, 0});
        greatest.atom(0, 1, 0);
        DUE.is("of the greatest cell", greatest.distance(0, 0, 0), 5760000);
        // The least is of a slanted edge: b - a.
        CrystalHouse slanted = houseOf(new int[] {100, 101, 400, 0, 0, 100});
        slanted.atom(0, 1, 0);
        DUE.is("of a slanted cell", slanted.distance(0, 0, 0), 576);
    }

    private static void nearWithin() {
        DUE.sentence("NEAR within r: how many pairs of a j and such three numbers have one of at most r");
        CrystalHouse house = houseOf(SQUARE);
        house.atom(0, 1, 0);
        house.atom(0, 1, Due.place(12, 12, 12));
        long half = 3 * 144 * 4;
        long whole = 576 * 4;
        long slant = (36 * 36 + 2 * 144) * 4;
        long[] r = {Long.MIN_VALUE, -1, 0, 1, half - 1, half, whole - 1, whole, 2 * whole - 1, 2 * whole, slant - 1, slant, 3 * whole - 1,
            3 * whole, Long.MAX_VALUE};
        int[] due = {0, 0, 0, 0, 0, 8, 8, 14, 14, 26, 26, 38, 38, 46, 53};
        for (int k = 0; k < r.length; k++) {
            DUE.is("near(0, 0, " + r[k] + ")", house.near(0, 0, r[k]), due[k]);
            DUE.is("near(0, 1, " + r[k] + ")", house.near(0, 1, r[k]), due[k]);
        }
        // A pair counts for each of the three numbers, not only for the least.
        CrystalHouse beside = houseOf(BRICK);
        beside.atom(0, 1, 0);
        beside.atom(0, 1, Due.place(12, 0, 0));
        DUE.is("both ways along an edge", beside.near(0, 0, 144 * 4), 2);
        DUE.is("r is more than an int holds", beside.near(0, 0, 1L << 32), 53);
        DUE.is("r is less than an int holds", beside.near(0, 0, -(1L << 32)), 0);
    }

    private static void nearButItself() {
        DUE.sentence("(but i itself).");
        CrystalHouse house = houseOf(BRICK);
        house.atom(0, 1, 7);
        DUE.is("alone", house.near(0, 0, 576 * 4 - 1), 0);
        DUE.is("its own pictures beside it", house.near(0, 0, 576 * 4), 2);
        DUE.is("all but itself", house.near(0, 0, Long.MAX_VALUE), 26);
        house.atom(0, 1, 8);
        DUE.is("all of two but itself", house.near(0, 1, Long.MAX_VALUE), 53);
        DUE.is("the other one", house.near(0, 1, 16), 1);
    }

    private static void linesOfPowers() {
        DUE.sentence("LINES within m (1 .. 6): of all h but 0 with numbers -m .. m the POWER isn't 0, by their Q:");
        CrystalHouse empty = houseOf(BRICK);
        for (int m = 1; m <= 6; m++) {
            DUE.is("lines of nothing within " + m, empty.lines(0, m), 0);
        }
        int[] cubes = {26, 124, 342, 728, 1330, 2196};
        for (int m = 1; m <= 6; m++) {
            CrystalHouse one = houseOf(BRICK);
            one.atom(0, 1, 77);
            CrystalHouse centred = houseOf(BRICK, "x+1/2,y+1/2,z+1/2");
            centred.atom(0, 1, 0);
            DUE.is("all h of one atom within " + m, allOf(one, m), cubes[m - 1]);
            // With half of all h, those whose sum is even.
            int even = 0;
            for (int h = 0; h < (2 * m + 1) * (2 * m + 1) * (2 * m + 1); h++) {
                int side = 2 * m + 1;
                even += (h / side / side - m + h / side % side - m + h % side - m) % 2 == 0 ? 1 : 0;
            }
            DUE.is("all h of a centred one within " + m, allOf(centred, m), even - 1);
        }
        // Thirds, eighths and 24ths cancel exactly too: of these only h with a first number of 0 are left.
        for (String text : new String[] {"x+1/24,y,z", "x+1/12,y,z", "x+1/8,y,z"}) {
            CrystalHouse cancelled = houseOf(BRICK, text);
            cancelled.atom(0, 5, 1000);
            DUE.is("all h of " + text, allOf(cancelled, 6), 13 * 13 - 1);
        }
        CrystalHouse third = houseOf(BRICK, "x+1/3,y,z");
        third.atom(0, 5, 1000);
        DUE.is("all h of thirds", allOf(third, 6), 5 * 13 * 13 - 1);
        CrystalHouse opposite = houseOf(BRICK);
        opposite.atom(0, 9, 0);
        opposite.atom(0, -9, Due.place(0, 0, 12));
        DUE.is("all h of two that cancel when l is even", allOf(opposite, 1), 18);
    }

    private static long allOf(CrystalHouse house, int m) {
        long all = 0;
        int count = house.lines(0, m);
        for (int k = 0; k < count; k++) {
            all += house.line(0, m, k, 1);
        }
        return all;
    }

    private static long q(int[] six, int h, int k, int l) {
        long a = six[0];
        long b = six[1];
        long c = six[2];
        long d = six[3];
        long e = six[4];
        long f = six[5];
        return (b * c - d * d) * h * h + (a * c - e * e) * k * k + (a * b - f * f) * l * l
            + 2 * ((e * f - a * d) * k * l + (d * f - b * e) * h * l + (d * e - c * f) * h * k);
    }

    private static void qOfLines() {
        DUE.sentence("with (h, k, l) A' h h + B' k k + C' l l + 2 (D' k l + E' h l + F' h k), A' to F' being B C - D D, A C - E E, A B - F F,"
            + " E F - A D, D F - B E, D E - C F.");
        int[][] cells = {BRICK, SQUARE, {100, 90, 80, 7, -5, 3}, {10000, 10000, 10000, -4999, -4998, -4997}, {10000, 10000, 10000, 0, 0, 0},
            {1, 1, 1, 0, 0, 0}};
        for (int[] six : cells) {
            for (int m = 1; m <= 6; m++) {
                TreeMap<Long, Integer> due = new TreeMap<>();
                for (int h = -m; h <= m; h++) {
                    for (int k = -m; k <= m; k++) {
                        for (int l = -m; l <= m; l++) {
                            if (h != 0 || k != 0 || l != 0) {
                                due.merge(q(six, h, k, l), 1, Integer::sum);
                            }
                        }
                    }
                }
                CrystalHouse house = houseOf(six);
                house.atom(0, 3, 4711);
                DUE.is("lines within " + m, house.lines(0, m), due.size());
                int at = 0;
                for (long q : due.keySet()) {
                    // So many are all that one house can be asked for.
                    if (at < 150) {
                        DUE.is("the Q of line " + at + " within " + m, house.line(0, m, at, 0), q);
                        DUE.is("how many of it", house.line(0, m, at, 1), due.get(q));
                        DUE.is("their powers", house.line(0, m, at, 2), 144L * due.get(q));
                    }
                    at++;
                }
                DUE.is("the Q of the last line", house.line(0, m, due.size() - 1, 0), due.lastKey());
            }
        }
    }

    private static void oneLineForEachQ() {
        DUE.sentence("One LINE for each Q, lowest first: how many h, the sum of their POWERS.");
        CrystalHouse house = houseOf(SQUARE, "z,x,y");
        house.atom(0, 1, 0);
        // 3 0 0 and 2 2 1 have one Q, of 6 and 24 h.
        int[] squares = {1, 2, 3, 4, 5, 6, 8, 9, 10, 11, 12, 13, 14, 17, 18, 19, 22, 27};
        int[] counts = {6, 12, 8, 6, 24, 24, 12, 30, 24, 24, 8, 24, 48, 24, 12, 24, 24, 8};
        // Beyond 3 3 1 and such, only h within 3 count: 17 is 3 2 2, without 4 1 0.
        DUE.is("lines within 3", house.lines(0, 3), squares.length);
        for (int k = 0; k < squares.length; k++) {
            DUE.is("the Q of line " + k, house.line(0, 3, k, 0), 16L * squares[k]);
            DUE.is("how many of line " + k, house.line(0, 3, k, 1), counts[k]);
            DUE.is("the powers of line " + k, house.line(0, 3, k, 2), 16L * counts[k]);
        }
        // Lines are of the atoms that there are: one more changes them, a refused one doesn't.
        DUE.is("lines within 1 of one", house.lines(0, 1), 3);
        DUE.is("the last Q of one", house.line(0, 1, 2, 0), 48);
        house.atom(0, -1, Due.place(12, 12, 12));
        DUE.is("lines within 1 of two that cancel", house.lines(0, 1), 2);
        DUE.is("the first Q", house.line(0, 1, 0, 0), 16);
        DUE.is("its powers", house.line(0, 1, 0, 2), 6 * 64);
        DUE.is("a refused atom", house.atom(0, 50, 0), NONE);
        DUE.is("its powers, again", house.line(0, 1, 0, 2), 6 * 64);
        CrystalHouse full = houseOf(SQUARE, CUBE);
        for (int i = 0; i < 6; i++) {
            full.atom(0, 99, Due.place(1, 2, 3 + i));
        }
        long[] due = new long[4];
        for (int h : new int[] {-1, 1}) {
            for (int what = 0; what < 4; what++) {
                due[what] += full.amplitude(0, h, 0, 0, 8 + what) + full.amplitude(0, 0, h, 0, 8 + what) + full.amplitude(0, 0, 0, h, 8 + what);
            }
        }
        for (int what = 0; what < 4; what++) {
            DUE.is("the powers of 1 0 0, " + what, full.line(0, 1, 0, 2 + what), due[what]);
        }
        CrystalHouse heavy = houseOf(BRICK);
        for (int i = 0; i < 24; i++) {
            heavy.atom(0, 99, Due.place(0, i, 0));
        }
        long all = 0;
        for (int k = 0; k < heavy.lines(0, 2); k++) {
            all += heavy.line(0, 2, k, 2);
        }
        // Of the 24 h within 2 whose second number is 0, of no others, each is (4 24 99)^2: all are more than an int holds.
        DUE.is("their sum", all, 24 * 9504L * 9504L);
    }

    private static void linesOfNewAtoms() {
        DUE.sentence("how many h, the sum of their POWERS.");
        int[] six = {4, 9, 16, 1, 2, 3};
        CrystalHouse house = houseOf(six);
        house.atom(0, 3, Due.place(1, 2, 5));
        house.atom(0, 7, 0);
        linesAreOfAmplitudes(house, six);
        house.atom(0, -5, Due.place(3, 1, 13));
        linesAreOfAmplitudes(house, six);
        CrystalHouse fewer = houseOf(SQUARE);
        fewer.atom(0, 3, Due.place(1, 2, 5));
        fewer.atom(0, 2, 0);
        linesAreOfAmplitudes(fewer, SQUARE);
        fewer.atom(0, -3, Due.place(13, 14, 17));
        linesAreOfAmplitudes(fewer, SQUARE);
    }

    /** The lines within 1, by asking for the power of each h. */
    private static void linesAreOfAmplitudes(CrystalHouse house, int[] six) {
        TreeMap<Long, long[]> due = new TreeMap<>();
        for (int h = -1; h <= 1; h++) {
            for (int k = -1; k <= 1; k++) {
                for (int l = -1; l <= 1; l++) {
                    long[] power = new long[4];
                    for (int what = 0; what < 4; what++) {
                        power[what] = house.amplitude(0, h, k, l, 8 + what);
                    }
                    boolean some = power[0] != 0 || power[1] != 0 || power[2] != 0 || power[3] != 0;
                    if (some && (h != 0 || k != 0 || l != 0)) {
                        long[] row = due.computeIfAbsent(q(six, h, k, l), q -> new long[] {q, 0, 0, 0, 0, 0});
                        row[1]++;
                        for (int what = 0; what < 4; what++) {
                            row[2 + what] += power[what];
                        }
                    }
                }
            }
        }
        DUE.is("lines within 1", house.lines(0, 1), due.size());
        int at = 0;
        for (long[] row : due.values()) {
            for (int what = 0; what < 6; what++) {
                DUE.is("line(0, 1, " + at + ", " + what + ")", house.line(0, 1, at, what), row[what]);
            }
            at++;
        }
    }

    private static void mapModulo() {
        DUE.sentence("The MAP of a MODEL: for each PLACE u the sum, over all pairs of PLACED ATOMS i, j with PLACE j - PLACE i = u modulo 24 (also"
            + " i with i), of the products of their weights.");
        CrystalHouse house = houseOf(BRICK);
        DUE.is("of nothing", house.map(0, 0), 0);
        house.atom(0, 99, Due.place(23, 0, 12));
        DUE.is("of one, at 0", house.map(0, 0), 9801);
        DUE.is("of one, elsewhere", house.map(0, Due.place(23, 0, 12)), 0);
        house.atom(0, -7, Due.place(0, 23, 12));
        DUE.is("at 0", house.map(0, 0), 9801 + 49);
        DUE.is("of j less i", house.map(0, Due.place(1, 23, 0)), -693);
        DUE.is("of i less j", house.map(0, Due.place(23, 1, 0)), -693);
        DUE.is("elsewhere", house.map(0, Due.place(1, 1, 0)), 0);
        // Halfway, j less i and i less j are the same modulo 24.
        house.atom(0, 2, Due.place(11, 12, 0));
        DUE.is("halfway", house.map(0, Due.place(12, 12, 12)), 2 * 198);
        DUE.is("not halfway", house.map(0, Due.place(11, 13, 12)), -14);
        DUE.is("the last place", house.map(0, 13823), 0);
        house.atom(0, 5, Due.place(22, 23, 11));
        DUE.is("the last place of two", house.map(0, 13823), 495);
        DUE.is("1 1 1 of two", house.map(0, Due.place(1, 1, 1)), 495);
        CrystalHouse shifts = houseOf(BRICK, "x+1/24,y,z");
        shifts.atom(0, 99, 0);
        for (int u = 0; u < 24; u++) {
            DUE.is("along x", shifts.map(0, Due.place(u, 0, 0)), 24 * 9801);
        }
        DUE.is("beside x", shifts.map(0, 1), 0);
    }

    // ---- promises 24 to 32 ----

    private static void modelNumber() {
        DUE.sentence("A new MODEL: its number.");
        CrystalHouse house = Due.houseOf();
        house.cell(4, 9, 16, 0, 0, 0);
        DUE.is("the first", house.model(0, 0), 0);
        DUE.is("an equal one is a new one", house.model(0, 0), 1);
        house.atom(0, 5, 0);
        DUE.is("an atom of the first is not of the other", house.placed(1, 0, 0), NONE);
        DUE.is("the lines of the other", house.lines(1, 1), 0);
    }

    private static void modelRefused() {
        DUE.sentence("NONE, refused, when there are 20, no such GROUP or CELL, or it doesn't FIT.");
        CrystalHouse house = Due.houseOf("-y,x,z");
        DUE.is("without a cell", house.model(0, 0), NONE);
        house.cell(4, 4, 16, 0, 0, 0);
        house.cell(4, 9, 16, 0, 0, 0);
        for (int number : Due.noneOf(1)) {
            DUE.is("model(" + number + ", 0)", house.model(number, 0), NONE);
        }
        for (int number : Due.noneOf(2)) {
            DUE.is("model(0, " + number + ")", house.model(0, number), NONE);
        }
        DUE.is("one that doesn't fit", house.model(0, 1), NONE);
        DUE.is("none was made", house.lines(0, 1), NONE);
        for (int i = 0; i < 20; i++) {
            DUE.is("model " + i, house.model(0, 0), i);
        }
        DUE.is("beyond 20", house.model(0, 0), NONE);
        DUE.is("lines(19, 1)", house.lines(19, 1), 0);
        DUE.is("lines(20, 1)", house.lines(20, 1), NONE);
    }

    private static void atomNumber() {
        DUE.sentence("A new ATOM of a MODEL: how many are PLACED then.");
        CrystalHouse house = houseOf(SQUARE, CUBE);
        DUE.is("one", house.atom(0, 1, 0), 1);
        DUE.is("six more", house.atom(0, 1, Due.place(1, 0, 0)), 7);
        DUE.is("48 more", house.atom(0, 1, Due.place(1, 2, 3)), 55);
        house.model(0, 0);
        DUE.is("of another model", house.atom(1, 1, Due.place(1, 2, 3)), 48);
    }

    private static void atomRefused() {
        DUE.sentence("NONE, refused, when there is no such MODEL, 30 were told, weight or place is not as said, a PLACE of its ORBIT is taken,"
            + " or more than 300 would be PLACED.");
        CrystalHouse house = houseOf(BRICK, "-x,-y,-z");
        for (int model : Due.noneOf(1)) {
            DUE.is("atom(" + model + ", 1, 0)", house.atom(model, 1, 0), NONE);
        }
        for (int weight : new int[] {0, 100, -100, Integer.MIN_VALUE, Integer.MAX_VALUE, 256, 65536, 65537}) {
            DUE.is("atom(0, " + weight + ", 0)", house.atom(0, weight, 0), NONE);
        }
        for (int place : Due.beyond(0, 13823)) {
            DUE.is("atom(0, 1, " + place + ")", house.atom(0, 1, place), NONE);
        }
        DUE.is("nothing was put", house.placed(0, 0, 0), NONE);
        DUE.is("at the last place", house.atom(0, 1, 13823), 2);
        DUE.is("at its other place", house.atom(0, 1, Due.place(1, 1, 1)), NONE);
        for (int i = 1; i < 30; i++) {
            DUE.is("atom " + i, house.atom(0, 1, Due.place(2, i / 24, i % 24)), 2 + 2 * i);
        }
        DUE.is("beyond 30", house.atom(0, 1, 0), NONE);
        CrystalHouse many = houseOf(BRICK, "x+1/24,y,z");
        for (int i = 0; i < 12; i++) {
            DUE.is("24 more", many.atom(0, 1, i), 24 * (i + 1));
        }
        DUE.is("beyond 300", many.atom(0, 1, 12), NONE);
        DUE.is("none of them was put", many.placed(0, 288, 0), NONE);
    }

    private static void placed() {
        DUE.sentence("Of PLACED ATOM i of a MODEL: its PLACE (what 0), its weight (1), which of those told it is of (2).");
        CrystalHouse house = houseOf(SQUARE, CUBE);
        for (int i = 0; i < 6; i++) {
            house.atom(0, 10 + i, Due.place(1, 2, 3 + i));
        }
        house.atom(0, -99, Due.place(0, 12, 1));
        int[] at = {0, 47, 48, 287, 288, 299};
        int[][] due = {{Due.place(1, 2, 3), 10, 0}, {Due.place(23, 22, 21), 10, 0}, {Due.place(1, 2, 4), 11, 1}, {Due.place(23, 22, 16), 15, 5},
            {Due.place(0, 1, 12), -99, 6}, {Due.place(23, 12, 0), -99, 6}};
        for (int i = 0; i < at.length; i++) {
            for (int what = 0; what < 3; what++) {
                DUE.is("placed(0, " + at[i] + ", " + what + ")", house.placed(0, at[i], what), due[i][what]);
            }
        }
    }

    private static void placedNone() {
        DUE.sentence("which of those told it is of (2). NONE when there is none such.");
        CrystalHouse house = houseOf(BRICK, "-x,-y,-z");
        DUE.is("of nothing", house.placed(0, 0, 0), NONE);
        house.atom(0, 5, 1);
        for (int i : Due.noneOf(2)) {
            for (int what = 0; what < 3; what++) {
                DUE.is("placed(0, " + i + ", " + what + ")", house.placed(0, i, what), NONE);
            }
        }
        for (int what : Due.beyond(0, 2)) {
            DUE.is("placed(0, 1, " + what + ")", house.placed(0, 1, what), NONE);
        }
        for (int model : Due.noneOf(1)) {
            DUE.is("placed(" + model + ", 0, 0)", house.placed(model, 0, 0), NONE);
        }
    }

    private static void weightMayBeNone() {
        DUE.sentence("(A weight may be -1, too.)");
        CrystalHouse house = houseOf(BRICK);
        DUE.is("atom of weight -1", house.atom(0, -1, 5), 1);
        DUE.is("its weight", house.placed(0, 0, 1), -1);
        DUE.is("its place", house.placed(0, 0, 0), 5);
        DUE.is("its wave", house.amplitude(0, 0, 0, 0, 0), -4);
    }

    private static void amplitude() {
        DUE.sentence("The k-th number of the WAVE of h of a MODEL: of the cosines (k 0 to 3), of the sines (4 to 7), of its POWER (8 to 11).");
        CrystalHouse house = houseOf(BRICK);
        house.atom(0, 3, Due.place(1, 0, 0));
        house.atom(0, 1, 0);
        waveIs(house, new int[] {1, 0, 0}, 4, 3, 0, 3, 0, -3, 0, 3, 160, 24, 0, 24);
        waveIs(house, new int[] {-1, 0, 0}, 4, 3, 0, 3, 0, 3, 0, -3, 160, 24, 0, 24);
        waveIs(house, new int[] {60, 0, 0}, -8, 0, 0, 0, 0, 0, 0, 0, 64, 0, 0, 0);
        waveIs(house, new int[] {-60, 60, -60}, -8, 0, 0, 0, 0, 0, 0, 0, 64, 0, 0, 0);
        waveIs(house, new int[] {0, 60, 60}, 16, 0, 0, 0, 0, 0, 0, 0, 256, 0, 0, 0);
    }

    private static void amplitudeNone() {
        DUE.sentence("of its POWER (8 to 11). 0 when there is none such, or a number is not -60 .. 60.");
        CrystalHouse house = houseOf(BRICK);
        house.atom(0, 3, Due.place(0, 0, 0));
        for (int h : Due.beyond(-60, 60)) {
            for (int what = 0; what < 12; what += 4) {
                DUE.is("amplitude(0, " + h + ", 0, 0, " + what + ")", house.amplitude(0, h, 0, 0, what), 0);
                DUE.is("amplitude(0, 0, " + h + ", 0, " + what + ")", house.amplitude(0, 0, h, 0, what), 0);
                DUE.is("amplitude(0, 0, 0, " + h + ", " + what + ")", house.amplitude(0, 0, 0, h, what), 0);
            }
        }
        for (int end : new int[] {-60, 60}) {
            DUE.is("amplitude(0, " + end + ", 0, 0, 0)", house.amplitude(0, end, 0, 0, 0), 12);
            DUE.is("amplitude(0, 0, " + end + ", 0, 0)", house.amplitude(0, 0, end, 0, 0), 12);
            DUE.is("amplitude(0, 0, 0, " + end + ", 0)", house.amplitude(0, 0, 0, end, 0), 12);
        }
        for (int what : Due.beyond(0, 11)) {
            DUE.is("amplitude(0, 0, 0, 0, " + what + ")", house.amplitude(0, 0, 0, 0, what), 0);
        }
        for (int model : Due.noneOf(1)) {
            DUE.is("amplitude(" + model + ", 0, 0, 0, 0)", house.amplitude(model, 0, 0, 0, 0), 0);
        }
    }

    private static void distanceNone() {
        DUE.sentence("The DISTANCE of PLACED i and j of a MODEL; 0 when there are none such.");
        CrystalHouse house = houseOf(BRICK);
        DUE.is("of nothing", house.distance(0, 0, 0), 0);
        house.atom(0, 1, 0);
        house.atom(0, 1, 1);
        DUE.is("distance(0, 0, 1)", house.distance(0, 0, 1), 16);
        DUE.is("distance(0, 1, 0)", house.distance(0, 1, 0), 16);
        for (int i : Due.noneOf(2)) {
            DUE.is("distance(0, " + i + ", 0)", house.distance(0, i, 0), 0);
            DUE.is("distance(0, 1, " + i + ")", house.distance(0, 1, i), 0);
            DUE.is("distance(0, " + i + ", " + i + ")", house.distance(0, i, i), 0);
        }
        for (int model : Due.noneOf(1)) {
            DUE.is("distance(" + model + ", 0, 1)", house.distance(model, 0, 1), 0);
        }
    }

    private static void nearNone() {
        DUE.sentence("NEAR: NONE when there is no such MODEL or PLACED ATOM.");
        CrystalHouse house = houseOf(BRICK);
        DUE.is("of nothing", house.near(0, 0, 5), NONE);
        house.atom(0, 1, 0);
        house.atom(0, 1, 1);
        DUE.is("near(0, 1, 16)", house.near(0, 1, 16), 1);
        for (int i : Due.noneOf(2)) {
            DUE.is("near(0, " + i + ", 5)", house.near(0, i, 5), NONE);
            DUE.is("near(0, " + i + ", -1)", house.near(0, i, -1), NONE);
        }
        for (int model : Due.noneOf(1)) {
            DUE.is("near(" + model + ", 0, 5)", house.near(model, 0, 5), NONE);
        }
    }

    private static void linesNone() {
        DUE.sentence("How many LINES a MODEL has within m; NONE when there is no such MODEL, or m isn't 1 .. 6.");
        CrystalHouse house = houseOf(BRICK);
        house.atom(0, 1, 0);
        for (int m : Due.beyond(1, 6)) {
            DUE.is("lines(0, " + m + ")", house.lines(0, m), NONE);
        }
        for (int model : Due.noneOf(1)) {
            DUE.is("lines(" + model + ", 1)", house.lines(model, 1), NONE);
        }
        // Of 0 or 1 each, but not all 0: 144, 64, 36 and their sums are all different.
        DUE.is("lines(0, 1)", house.lines(0, 1), 7);
        DUE.is("lines(0, 6)", house.lines(0, 6) > 7, true);
        CrystalHouse skew = houseOf(new int[] {1009, 2003, 3001, 101, 57, 211});
        skew.atom(0, 1, 0);
        DUE.is("as many as there can be", skew.lines(0, 6), 1098);
        DUE.is("the last of them is there", skew.line(0, 6, 1097, 1), 2);
    }

    private static void line() {
        DUE.sentence("Of the k-th LINE: its Q (what 0), how many h (1), the sum of their POWERS (2 to 5).");
        CrystalHouse house = houseOf(new int[] {4, 9, 16, 1, 2, 3});
        house.atom(0, 3, Due.place(0, 0, 1));
        house.atom(0, 1, 0);
        // The lowest Q is of 0 0 1 and its opposite: 10 + 6 cosine of a 24th, times 16, twice.
        long[] due = {27, 2, 320, 48, 0, 48};
        for (int what = 0; what < 6; what++) {
            DUE.is("line(0, 1, 0, " + what + ")", house.line(0, 1, 0, what), due[what]);
        }
        CrystalHouse two = houseOf(new int[] {4, 9, 16, 1, 2, 3});
        two.atom(0, 3, Due.place(0, 0, 2));
        two.atom(0, 1, 0);
        long[] twice = {27, 2, 320, 0, 96, 0};
        for (int what = 0; what < 6; what++) {
            DUE.is("line(0, 1, 0, " + what + ") of two", two.line(0, 1, 0, what), twice[what]);
        }
    }

    private static void lineNone() {
        DUE.sentence("the sum of their POWERS (2 to 5). 0 when there is none such.");
        CrystalHouse house = houseOf(BRICK);
        DUE.is("of nothing", house.line(0, 1, 0, 0), 0);
        house.atom(0, 1, 0);
        for (int what = 0; what < 3; what++) {
            for (int k : Due.noneOf(7)) {
                DUE.is("line(0, 1, " + k + ", " + what + ")", house.line(0, 1, k, what), 0);
            }
            for (int m : Due.beyond(1, 6)) {
                DUE.is("line(0, " + m + ", 0, " + what + ")", house.line(0, m, 0, what), 0);
            }
            for (int model : Due.noneOf(1)) {
                DUE.is("line(" + model + ", 1, 0, " + what + ")", house.line(model, 1, 0, what), 0);
            }
        }
        for (int what : Due.beyond(0, 5)) {
            DUE.is("line(0, 1, 6, " + what + ")", house.line(0, 1, 6, what), 0);
        }
        DUE.is("the last line", house.line(0, 1, 6, 0), 144 + 64 + 36);
    }

    private static void mapNone() {
        DUE.sentence("The MAP of a MODEL at a PLACE; 0 when there are none such.");
        CrystalHouse house = houseOf(BRICK, "x+1/2,y,z");
        house.atom(0, 3, 0);
        DUE.is("map(0, 0)", house.map(0, 0), 18);
        DUE.is("map(0, 6912)", house.map(0, 6912), 18);
        for (int place : Due.beyond(0, 13823)) {
            DUE.is("map(0, " + place + ")", house.map(0, place), 0);
        }
        DUE.is("map(0, 13824 + 6912)", house.map(0, 13824 + 6912), 0);
        DUE.is("map(0, -6912)", house.map(0, -6912), 0);
        for (int model : Due.noneOf(1)) {
            DUE.is("map(" + model + ", 0)", house.map(model, 0), 0);
        }
    }
}

import java.util.Arrays;

/** Each sentence about cells (Terms 4, promises 19 to 23) at its boundaries. */
public final class CellBoundariesTest {
    private static final int NONE = CrystalHouse.NONE;
    private static final Due DUE = new Due();

    public static void main(String[] args) {
        edgesOfSix();
        positiveSix();
        fortyCells();
        firstStep();
        secondStep();
        signSteps();
        fifthStep();
        sixthStep();
        seventhStep();
        eighthStep();
        halvesOfDoubled();
        keepers();
        symmetryOfReduced();
        fitsAsTold();
        multiplesByEdges();
        multiplesInOrder();
        cellNumber();
        cellRefused();
        reducedAll();
        reducedNone();
        fits();
        fitsNone();
        differentMultiples();
        multiplesNone();
        multiple();
        multipleNone();
        DUE.close("cells hold at their boundaries");
    }

    private static int cell(CrystalHouse house, int... six) {
        return house.cell(six[0], six[1], six[2], six[3], six[4], six[5]);
    }

    private static CrystalHouse houseOf(int... six) {
        CrystalHouse house = new CrystalHouse();
        cell(house, six);
        return house;
    }

    private static void taken(boolean due, int... six) {
        DUE.is("cell of " + Arrays.toString(six), cell(new CrystalHouse(), six), due ? 0 : NONE);
    }

    // ---- Terms 4 ----

    private static void edgesOfSix() {
        DUE.sentence("A, B, C 1 .. 10,000, D, E, F -10,000 .. 10,000,");
        taken(true, 1, 1, 1, 0, 0, 0);
        taken(true, 10000, 10000, 10000, 0, 0, 0);
        taken(true, 10000, 10000, 10000, 9999, 9999, 9999);
        taken(true, 10000, 10000, 10000, -4999, -4999, -4999);
        taken(true, 10000, 10000, 10000, -9999, 0, 0);
        taken(true, 10000, 10000, 10000, 0, -9999, 0);
        taken(true, 10000, 10000, 10000, 0, 0, -9999);
        for (int at = 0; at < 3; at++) {
            for (int wrong : Due.beyond(1, 10000)) {
                int[] six = {1, 1, 1, 0, 0, 0};
                six[at] = wrong;
                taken(false, six);
                int[] great = {10000, 10000, 10000, 0, 0, 0};
                great[at] = wrong;
                taken(false, great);
            }
            for (int right : new int[] {1, 2, 9999, 10000}) {
                int[] six = {7, 7, 7, 0, 0, 0};
                six[at] = right;
                taken(true, six);
            }
        }
        for (int at = 3; at < 6; at++) {
            for (int wrong : Due.beyond(-10000, 10000)) {
                int[] six = {10000, 10000, 10000, 0, 0, 0};
                six[at] = wrong;
                taken(false, six);
            }
            // Such as have squares that are 0, or above 0 but small, if high bits are lost.
            for (int wrong : new int[] {65536, -65536, 131072, 1 << 20, 92682, -92682, 46341}) {
                int[] six = {10000, 10000, 10000, 0, 0, 0};
                six[at] = wrong;
                taken(false, six);
            }
        }
    }

    private static void positiveSix() {
        DUE.sentence("with A B - F F above 0 and the determinant of the rows A F E, F B D, E D C above 0.");
        taken(false, 4, 9, 16, 0, 0, 6);
        taken(false, 4, 9, 16, 0, 0, -6);
        taken(true, 5, 8, 16, 0, 0, 6);
        taken(false, 5, 7, 16, 0, 0, 6);
        // The determinant is 5 here, but A B - F F is -3.
        taken(false, 1, 1, 1, 2, 2, 2);
        // A B - F F is 1, the determinant is 1, 0 or -1.
        taken(true, 1, 1, 1, 0, 0, 0);
        taken(false, 1, 1, 1, 1, 0, 0);
        taken(false, 1, 1, 1, 0, -1, 0);
        taken(true, 1, 1, 2, 0, 1, 0);
        taken(false, 1, 1, 2, 1, 1, 0);
        taken(true, 1, 1, 3, 1, -1, 0);
        taken(false, 2, 2, 2, -1, -1, -1);
        taken(true, 2, 2, 2, 1, 1, 1);
        taken(false, 2, 2, 2, 2, 0, 0);
        taken(false, 10, 10, 10, 9, 9, -9);
        taken(false, 10000, 10000, 10000, 10000, 0, 0);
        taken(false, 10000, 10000, 10000, 0, 10000, 0);
        taken(false, 10000, 10000, 10000, 0, 0, 10000);
        taken(false, 10000, 10000, 10000, 9999, 9999, -9999);
        taken(false, 10000, 10000, 10000, -5000, -5000, -5000);
    }

    private static void fortyCells() {
        DUE.sentence("CELLS are numbered from 0 on, 40 at most.");
        CrystalHouse house = new CrystalHouse();
        for (int i = 0; i < 40; i++) {
            DUE.is("cell number " + i, house.cell(1 + i, 100, 100, 0, 0, 0), i);
            DUE.is("a refused one has no number", house.cell(0, 100, 100, 0, 0, 0), NONE);
        }
        DUE.is("one more", house.cell(1, 1, 1, 0, 0, 0), NONE);
        DUE.is("the first", house.reduced(0, 0), 1);
        DUE.is("the last", house.reduced(39, 0), 40);
        DUE.is("behind the last", house.reduced(40, 0), 0);
    }

    /** Told six numbers, and the six that they are reduced to. */
    private static void reduces(int... twelve) {
        CrystalHouse house = new CrystalHouse();
        int[] told = Arrays.copyOf(twelve, 6);
        DUE.is("cell of " + Arrays.toString(told), cell(house, told), 0);
        for (int what = 0; what < 6; what++) {
            DUE.is("reduced of " + Arrays.toString(told) + ", " + what, house.reduced(0, what), twelve[6 + what]);
        }
    }

    private static void firstStep() {
        DUE.sentence("(1) A > B, or A = B and |X| > |Y|: A and B, X and Y change places.");
        reduces(9, 4, 16, 0, 0, 0, 4, 9, 16, 0, 0, 0);
        reduces(5, 4, 16, 1, 2, 1, 4, 5, 16, 2, 1, 1);
        reduces(11, 10, 20, 2, 3, 1, 10, 11, 20, 3, 2, 1);
        reduces(10, 10, 20, 3, 1, 2, 10, 10, 20, 1, 3, 2);
        reduces(10, 10, 20, -3, -1, -2, 10, 10, 20, -1, -3, -2);
        reduces(10, 10, 20, 1, 3, 2, 10, 10, 20, 1, 3, 2);
        reduces(10, 10, 20, -1, -3, -2, 10, 10, 20, -1, -3, -2);
        reduces(10, 10, 20, -1, -3, 2, 10, 10, 20, 1, 3, 2);
        reduces(10, 10, 20, 2, 2, 1, 10, 10, 20, 2, 2, 1);
        reduces(9, 4, 16, 1, -1, 1, 4, 9, 16, -1, -1, -1);
    }

    private static void secondStep() {
        DUE.sentence("(2) B > C, or B = C and |Y| > |Z|: B and C, Y and Z change places; from (1).");
        reduces(4, 16, 9, 0, 0, 0, 4, 9, 16, 0, 0, 0);
        reduces(16, 9, 4, 0, 0, 0, 4, 9, 16, 0, 0, 0);
        reduces(9, 16, 4, 1, 2, 1, 4, 9, 16, 1, 1, 2);
        reduces(10, 13, 12, 1, 2, 3, 10, 12, 13, 1, 3, 2);
        reduces(10, 12, 12, 1, 3, 2, 10, 12, 12, 1, 2, 3);
        reduces(10, 12, 12, -1, -3, -2, 10, 12, 12, -1, -2, -3);
        reduces(10, 12, 12, 1, 2, 3, 10, 12, 12, 1, 2, 3);
        reduces(10, 12, 12, -1, -2, -3, 10, 12, 12, -1, -2, -3);
        reduces(10, 12, 12, 1, -2, -3, 10, 12, 12, 1, 2, 3);
        reduces(10, 10, 10, 3, 2, 1, 10, 10, 10, 1, 2, 3);
        reduces(10, 10, 10, 2, 1, 3, 10, 10, 10, 1, 2, 3);
        reduces(10, 10, 10, -3, -2, -1, 10, 10, 10, -1, -2, -3);
    }

    private static void signSteps() {
        DUE.sentence("(3) X Y Z > 0: X, Y, Z become |X|, |Y|, |Z|; else (4) -|X|, -|Y|, -|Z|.");
        for (int signs = 0; signs < 8; signs++) {
            int d = (signs & 1) == 0 ? 2 : -2;
            int e = (signs & 2) == 0 ? 1 : -1;
            int f = (signs & 4) == 0 ? 3 : -3;
            int s = d * e * f > 0 ? 1 : -1;
            reduces(10, 12, 20, d, e, f, 10, 12, 20, 2 * s, s, 3 * s);
        }
        reduces(10, 12, 20, 2, 0, 3, 10, 12, 20, -2, 0, -3);
        reduces(10, 12, 20, -2, 0, 3, 10, 12, 20, -2, 0, -3);
        reduces(10, 12, 20, 0, 1, 3, 10, 12, 20, 0, -1, -3);
        reduces(10, 12, 20, 2, 1, 0, 10, 12, 20, -2, -1, 0);
        reduces(10, 12, 20, 0, 0, 3, 10, 12, 20, 0, 0, -3);
        // X Y Z is 2^33 here, and with a 2 for a 1 it is 2^34: 0, if high bits are lost.
        reduces(10000, 10000, 10000, -1024, -1024, 1024, 10000, 10000, 10000, 1024, 1024, 1024);
        reduces(10000, 10000, 10000, -2048, -1024, 1024, 10000, 10000, 10000, 1024, 1024, 2048);
        reduces(10000, 10000, 10000, 2048, 1024, -1024, 10000, 10000, 10000, -1024, -1024, -2048);
    }

    private static void fifthStep() {
        DUE.sentence("(5) |X| > B, or X = B and 2Y < Z, or X = -B and Z < 0: with s 1 or -1 as X is: C becomes B + C - s X, Y Y - s Z,"
            + " X X - 2 s B (all from what was); from (1).");
        reduces(10, 12, 20, 7, 1, 2, 10, 12, 18, 5, 1, 2);
        reduces(10, 12, 20, -7, -1, -2, 10, 12, 18, 5, 3, 2);
        reduces(10, 12, 20, 6, 1, 3, 10, 12, 20, 6, 2, 3);
        reduces(10, 12, 20, 6, 2, 4, 10, 12, 20, 6, 2, 4);
        reduces(10, 12, 20, 6, 1, 2, 10, 12, 20, 6, 1, 2);
        reduces(10, 12, 20, -6, -1, -2, 10, 12, 20, 6, 3, 2);
        reduces(10, 12, 20, -6, -1, 0, 10, 12, 20, -6, -1, 0);
    }

    private static void sixthStep() {
        DUE.sentence("(6) |Y| > A, or Y = A and 2X < Z, or Y = -A and Z < 0: s by Y: C becomes A + C - s Y, X X - s Z, Y Y - 2 s A; from (1).");
        reduces(10, 12, 20, 1, 6, 2, 10, 12, 18, 1, 4, 2);
        reduces(10, 12, 20, -1, -6, -2, 10, 12, 18, 3, 4, 2);
        reduces(10, 12, 20, 1, 5, 3, 10, 12, 20, 2, 5, 3);
        reduces(10, 12, 20, 2, 5, 4, 10, 12, 20, 2, 5, 4);
        reduces(10, 12, 20, 1, 5, 2, 10, 12, 20, 1, 5, 2);
        reduces(10, 12, 20, -1, -5, -2, 10, 12, 20, 3, 5, 2);
        reduces(10, 12, 20, -1, -5, 0, 10, 12, 20, -1, -5, 0);
        reduces(1, 1, 10000, 0, 99, 0, 1, 1, 199, 0, 0, 0);
    }

    private static void seventhStep() {
        DUE.sentence("(7) |Z| > A, or Z = A and 2X < Y, or Z = -A and Y < 0: s by Z: B becomes A + B - s Z, X X - s Y, Z Z - 2 s A; from (1).");
        reduces(10, 12, 20, 1, 2, 6, 10, 10, 20, 1, 2, 4);
        reduces(10, 12, 20, -1, -2, -6, 10, 10, 20, 2, 3, 4);
        reduces(10, 12, 20, 1, 3, 5, 10, 12, 20, 2, 3, 5);
        reduces(10, 12, 20, 2, 4, 5, 10, 12, 20, 2, 4, 5);
        reduces(10, 12, 20, 1, 2, 5, 10, 12, 20, 1, 2, 5);
        reduces(10, 12, 20, -1, -2, -5, 10, 12, 20, 3, 2, 5);
        reduces(10, 12, 20, -1, 0, -5, 10, 12, 20, -1, 0, -5);
        reduces(1, 10000, 10000, 50, 0, 99, 1, 199, 10000, -50, 0, 0);
        reduces(10000, 10000, 1, 99, 99, 9900, 1, 199, 199, -99, 0, 0);
    }

    private static void eighthStep() {
        DUE.sentence("(8) S = X + Y + Z + A + B: S < 0, or S = 0 and 2 (A + Y) + Z > 0: C becomes C + S, X 2B + X + Z, Y 2A + Y + Z; from (1).");
        reduces(10, 10, 20, -4, -4, -4, 10, 10, 16, -2, -2, -4);
        // S is -1, 0 and 1.
        reduces(10, 11, 20, -5, -3, -3, 10, 11, 19, -3, -4, -3);
        reduces(10, 12, 20, -5, -3, -3, 10, 12, 20, -4, -4, -3);
        reduces(10, 13, 20, -5, -3, -3, 10, 13, 20, -5, -3, -3);
        // S is 0, and 2 (A + Y) + Z is -2 and 0.
        reduces(10, 12, 20, -4, -4, -3, 10, 12, 20, -4, -4, -3);
        reduces(10, 12, 20, -5, -4, -2, 10, 12, 20, -5, -4, -2);
        reduces(10, 12, 20, -3, -5, -3, 10, 12, 20, 6, 5, 3);
    }

    private static void halvesOfDoubled() {
        DUE.sentence("Then D, E, F are halves of X, Y, Z.");
        reduces(11, 13, 21, 1, 1, 1, 11, 13, 21, 1, 1, 1);
        reduces(11, 13, 21, -1, -1, -1, 11, 13, 21, -1, -1, -1);
        reduces(11, 13, 21, 6, 5, 5, 11, 13, 21, 6, 5, 5);
    }

    private static void fit(boolean due, String text, int... six) {
        CrystalHouse house = Due.houseOf(text);
        cell(house, six);
        DUE.is(text + " fits " + Arrays.toString(six), house.fits(0, 0), due);
    }

    private static void keepers() {
        DUE.sentence("A MATRIX (as of an OPERATION) KEEPS six numbers if the edges that it makes of these (the k-th is the sum of edges times"
            + " the k-th column) have the same products.");
        // By columns, x-y,-y,-z makes a, -a - b, -c: it keeps those with A = -2F and E = 0.
        fit(true, "x-y,-y,-z", 10, 17, 30, 3, 0, -5);
        fit(false, "x-y,-y,-z", 10, 17, 30, 3, 0, 5);
        fit(false, "x-y,-y,-z", 10, 17, 30, 3, 0, -4);
        fit(false, "x-y,-y,-z", 10, 17, 30, 3, 1, -5);
        fit(false, "x-y,-y,-z", 17, 10, 30, 0, 0, -5);
        fit(true, "-y,x-y,z", 10, 10, 9, 0, 0, -5);
        fit(false, "-y,x-y,z", 10, 10, 9, 0, 0, 5);
        // Of the six products one alone is another.
        fit(true, "z,x,y", 10, 10, 10, 1, 1, 1);
        fit(false, "z,x,y", 11, 10, 10, 1, 1, 1);
        fit(false, "z,x,y", 10, 11, 10, 1, 1, 1);
        fit(false, "z,x,y", 10, 10, 11, 1, 1, 1);
        fit(false, "z,x,y", 10, 10, 10, 2, 1, 1);
        fit(false, "z,x,y", 10, 10, 10, 1, 2, 1);
        fit(false, "z,x,y", 10, 10, 10, 1, 1, 2);
        fit(true, "-x,-y,z", 10, 11, 12, 0, 0, 1);
        fit(false, "-x,-y,z", 10, 11, 12, 1, 0, 1);
        fit(false, "-x,-y,z", 10, 11, 12, 0, -1, 1);
        fit(false, "-x,y,-z", 10, 11, 12, 0, 0, 1);
        fit(true, "-x,-y,-z", 10, 11, 12, 3, 2, 1);
        fit(true, "y,x,-z", 10, 10, 12, 3, -3, 1);
        fit(false, "y,x,-z", 10, 10, 12, 3, 3, 1);
        fit(true, "-y,x,z+1/4", 10000, 10000, 9999, 0, 0, 0);
        fit(false, "-y,x,z+1/4", 10000, 9999, 9999, 0, 0, 0);
        keepersOfAllMatrices();
    }

    /** Cells with much symmetry, told by edges of which some are sums of others. */
    private static final int[][] SYMMETRIC = {
        {10, 10, 10, 0, 0, 0}, {10, 10, 10, 5, 5, 5}, {3, 3, 3, -1, -1, -1}, {10, 10, 7, 0, 0, -5}, {7, 10, 10, -5, 0, 0},
        {10, 7, 10, 0, 5, 0}, {10, 10, 20, -5, -5, 0}, {10, 10, 10, 2, 2, 2}, {10, 20, 30, -10, 0, 0}, {10, 20, 20, 10, 5, 5},
        {4, 4, 6, -2, -2, 0}, {1, 2, 3, 1, 0, 1}, {2, 2, 2, 0, 1, 1}, {3, 3, 4, 2, 2, 1}, {6, 6, 6, -2, -1, -3}, {10, 12, 20, -5, -4, -2},
        {4, 6, 8, 2, 2, 2}, {4, 6, 8, 3, 2, 2}, {9, 9, 12, 0, -3, -3}
    };

    private static boolean keeps(int nine, long[] six) {
        long[][] edges = new long[3][3];
        for (int i = 8, rest = nine; i >= 0; i--, rest /= 3) {
            edges[i % 3][i / 3] = rest % 3 - 1;
        }
        return Arrays.equals(Oracle.made(six, edges[0], edges[1], edges[2]), six);
    }

    private static long[] asLongs(int... six) {
        return Arrays.stream(six).asLongStream().toArray();
    }

    private static void keepersOfAllMatrices() {
        for (int nine = 0; nine < 19683; nine++) {
            CrystalHouse house = new CrystalHouse();
            int operation = house.operation(nine, 0);
            if (operation == NONE || !house.choose(operation) || house.group() == NONE) {
                continue;
            }
            for (int i = 0; i < SYMMETRIC.length; i++) {
                cell(house, SYMMETRIC[i]);
                DUE.is("matrix " + nine + " keeps " + Arrays.toString(SYMMETRIC[i]), house.fits(0, i), keeps(nine, asLongs(SYMMETRIC[i])));
            }
        }
    }

    private static void symmetry(int due, int... six) {
        DUE.is("the symmetry of " + Arrays.toString(six), houseOf(six).reduced(0, 6), due);
    }

    private static void symmetryOfReduced() {
        DUE.sentence("The SYMMETRY of a CELL: how many MATRICES KEEP its reduced six.");
        symmetry(48, 1, 1, 1, 0, 0, 0);
        symmetry(48, 10000, 10000, 10000, 0, 0, 0);
        symmetry(48, 10000, 10000, 10000, 5000, 5000, 5000);
        symmetry(48, 3, 3, 3, -1, -1, -1);
        symmetry(24, 10, 10, 33, 0, 0, -5);
        symmetry(16, 7, 7, 9, 0, 0, 0);
        symmetry(12, 10, 10, 10, 1, 1, 1);
        symmetry(12, 10, 10, 10, -1, -1, -1);
        symmetry(8, 4, 9, 16, 0, 0, 0);
        symmetry(8, 10, 10, 16, 0, 0, -3);
        symmetry(4, 4, 9, 16, 0, 1, 0);
        symmetry(2, 40, 90, 160, 3, 5, 7);
        // As they are told, few matrices keep these; they are reduced to a cube, a square and a hexagon.
        symmetry(48, 1, 2, 5, -2, 0, 1);
        symmetry(16, 1, 1, 10000, 0, 99, 0);
        symmetry(24, 10, 10, 33, 0, 0, 5);
        symmetry(16, 9, 7, 7, 0, 0, 0);
        for (int[] six : SYMMETRIC) {
            long[] low = new long[6];
            for (int what = 0; what < 6; what++) {
                low[what] = houseOf(six).reduced(0, what);
            }
            int due = 0;
            for (int nine = 0; nine < 19683; nine++) {
                due += keeps(nine, low) ? 1 : 0;
            }
            symmetry(due, six);
        }
    }

    private static void fitsAsTold() {
        DUE.sentence("A GROUP FITS a CELL if all its MATRICES KEEP its six as they were told (these count for all that is below, too).");
        fit(true, "-y,x,z", 7, 7, 9, 0, 0, 0);
        fit(false, "-y,x,z", 9, 7, 7, 0, 0, 0);
        fit(true, "x,-z,y", 9, 7, 7, 0, 0, 0);
        fit(false, "-y,x,z", 1, 2, 1, 0, 0, 1);
        CrystalHouse house = Due.houseOf("-y,x,z", "z,x,y");
        house.cell(7, 7, 9, 0, 0, 0);
        house.cell(7, 7, 7, 0, 0, 0);
        DUE.is("one of its matrices doesn't keep them", house.fits(0, 0), false);
        DUE.is("all of its matrices keep them", house.fits(0, 1), true);
        // The distance is by a cell of 1 2 1, F 1, not by the square cell that it is reduced to.
        CrystalHouse slanted = new CrystalHouse();
        slanted.group();
        slanted.cell(1, 2, 1, 0, 0, 1);
        slanted.model(0, 0);
        slanted.atom(0, 1, 0);
        slanted.atom(0, 1, Due.place(0, 1, 0));
        DUE.is("the distance along b", slanted.distance(0, 0, 1), 2);
        // Q is 2 h h + k k + l l - 2 h k: 1, 2, 3, 5 or 6; of the square cell it would be 1, 2 or 3.
        DUE.is("the lines", slanted.lines(0, 1), 5);
        DUE.is("the greatest Q", slanted.line(0, 1, 4, 0), 6);
    }

    private static void multiplesByEdges() {
        DUE.sentence("MULTIPLES of a CELL by n, 1 .. 12: edges p a, q a + r b, s a + t b + u c, with p r u = n, all above 0, 0 <= q < p,"
            + " 0 <= s < p, 0 <= t < r: each, reduced;");
        // Of a cell without any symmetry all are different: their number is that of the sublattices.
        CrystalHouse house = houseOf(1009, 2003, 3001, 101, 57, 211);
        int[] due = {1, 7, 13, 35, 31, 91, 57, 155, 130, 217, 133, 455};
        for (int n = 1; n <= 12; n++) {
            DUE.is("multiples by " + n, house.multiples(0, n), due[n - 1]);
        }
        // Of a brick of edges 1, 2 and 5: one edge doubled, or two of them crossed, or all three.
        long[][] byTwo = {{1, 4, 100, 0, 0, 0}, {1, 16, 25, 0, 0, 0}, {1, 16, 29, -8, 0, 0}, {4, 4, 25, 0, 0, 0}, {4, 4, 26, 0, -2, 0},
            {4, 5, 25, 0, 0, -2}, {4, 5, 26, 1, 2, 2}};
        check(houseOf(1, 4, 25, 0, 0, 0), 2, byTwo);
        check(houseOf(25, 1, 4, 0, 0, 0), 2, byTwo);
        DUE.is("by 1 it is reduced too", houseOf(25, 4, 1, 0, 0, 0).multiple(0, 1, 0, 0), 1);
        DUE.is("by 1 there is one", houseOf(25, 4, 1, 0, 0, 0).multiples(0, 1), 1);
    }

    private static void check(CrystalHouse house, int n, long[][] due) {
        DUE.is("multiples by " + n, house.multiples(0, n), due.length);
        for (int k = 0; k < due.length; k++) {
            DUE.is("multiple " + k + " by " + n, Arrays.toString(six(house, n, k)), Arrays.toString(due[k]));
        }
    }

    private static long[] six(CrystalHouse house, int n, int k) {
        long[] six = new long[6];
        for (int what = 0; what < 6; what++) {
            six[what] = house.multiple(0, n, k, what);
        }
        return six;
    }

    private static void multiplesInOrder() {
        DUE.sentence("the different ones, lowest first by A, then B, C, D, E, F.");
        int[][] cells = {{1, 1, 1, 0, 0, 0}, {10, 10, 10, 5, 5, 5}, {3, 3, 3, -1, -1, -1}, {4, 9, 16, 1, 2, 3}, {10, 10, 33, 0, 0, -5},
            {10000, 10000, 10000, 0, 0, 0}, {9999, 10000, 10000, -4999, -4990, -3}};
        for (int[] told : cells) {
            long determinant = houseOf(told).reduced(0, 7);
            for (int n = 1; n <= 12; n++) {
                int count = houseOf(told).multiples(0, n);
                long[] last = {0, 0, 0, 0, 0, 0};
                CrystalHouse house = houseOf(told);
                for (int k = 0; k < count; k++) {
                    house = k % 80 == 79 ? houseOf(told) : house;
                    long[] now = six(house, n, k);
                    DUE.is("multiple " + k + " by " + n + " is above the last one", Arrays.compare(now, last) > 0, true);
                    DUE.is("its determinant", Oracle.det(Oracle.rows(now)), determinant * n * n);
                    last = now;
                }
            }
        }
        // Of these two, F alone is different.
        CrystalHouse close = houseOf(2, 11, 9, 2, -1, -2);
        DUE.is("multiple 78 by 8", Arrays.toString(six(close, 8, 78)), "[16, 24, 32, 12, 4, 1]");
        DUE.is("multiple 79 by 8", Arrays.toString(six(close, 8, 79)), "[16, 24, 32, 12, 4, 2]");
        CrystalHouse cube = houseOf(1, 1, 1, 0, 0, 0);
        int[] due = {1, 3, 3, 9, 5, 13, 7, 24};
        for (int n = 1; n <= 8; n++) {
            DUE.is("multiples of a cube by " + n, cube.multiples(0, n), due[n - 1]);
        }
        check(cube, 2, new long[][] {{1, 1, 4, 0, 0, 0}, {1, 2, 2, 0, 0, 0}, {2, 2, 2, 1, 1, 1}});
        check(cube, 3, new long[][] {{1, 1, 9, 0, 0, 0}, {1, 2, 5, -1, 0, 0}, {2, 2, 3, 0, 0, -1}});
    }

    // ---- promises 19 to 23 ----

    private static void cellNumber() {
        DUE.sentence("A new CELL: its number.");
        CrystalHouse house = new CrystalHouse();
        DUE.is("the first", house.cell(4, 9, 16, 0, 0, 0), 0);
        DUE.is("an equal one is a new one", house.cell(4, 9, 16, 0, 0, 0), 1);
        DUE.is("another one", house.cell(5, 9, 16, 0, 0, 0), 2);
        DUE.is("reduced(1, 0)", house.reduced(1, 0), 4);
        DUE.is("reduced(2, 0)", house.reduced(2, 0), 5);
    }

    private static void cellRefused() {
        DUE.sentence("NONE, refused, when there are 40, or they are not as said.");
        CrystalHouse house = new CrystalHouse();
        int[][] wrong = {{0, 1, 1, 0, 0, 0}, {1, 10001, 1, 0, 0, 0}, {1, 1, -1, 0, 0, 0}, {9, 9, 9, 10001, 0, 0}, {9, 9, 9, 0, -10001, 0},
            {1, 1, 1, 0, 0, 1}, {1, 1, 1, 1, 0, 0}};
        for (int[] six : wrong) {
            DUE.is("cell of " + Arrays.toString(six), cell(house, six), NONE);
            DUE.is("reduced(0, 0)", house.reduced(0, 0), 0);
        }
        for (int i = 0; i < 40; i++) {
            DUE.is("cell number " + i, house.cell(1, 1, 1, 0, 0, 0), i);
        }
        DUE.is("beyond 40", house.cell(2, 2, 2, 0, 0, 0), NONE);
        DUE.is("the last stays", house.reduced(39, 0), 1);
        DUE.is("reduced(40, 0)", house.reduced(40, 0), 0);
    }

    private static void reducedAll() {
        DUE.sentence("Of a CELL, reduced, A to F (what 0 to 5), its SYMMETRY (6), the determinant (7).");
        CrystalHouse house = houseOf(20, 12, 10, 2, 3, 1);
        long[] due = {10, 12, 20, 1, 3, 2, 2, 10 * 12 * 20 + 2 * 6 - 10 - 12 * 9 - 20 * 4};
        for (int what = 0; what < 8; what++) {
            DUE.is("reduced(0, " + what + ")", house.reduced(0, what), due[what]);
        }
        DUE.is("the greatest determinant", houseOf(10000, 10000, 10000, 0, 0, 0).reduced(0, 7), 1000000000000L);
        DUE.is("the least determinant", houseOf(1, 1, 1, 0, 0, 0).reduced(0, 7), 1);
        DUE.is("a determinant of great numbers", houseOf(10000, 10000, 10000, 9999, 9999, 9999).reduced(0, 7), 29998);
    }

    private static void reducedNone() {
        DUE.sentence("the determinant (7). 0 when there is none such, or for another what.");
        CrystalHouse house = houseOf(4, 9, 16, 1, 2, 3);
        for (int what : Due.beyond(0, 7)) {
            DUE.is("reduced(0, " + what + ")", house.reduced(0, what), 0);
        }
        for (int number : Due.noneOf(1)) {
            for (int what = 0; what < 8; what++) {
                DUE.is("reduced(" + number + ", " + what + ")", house.reduced(number, what), 0);
            }
        }
    }

    private static void fits() {
        DUE.sentence("Whether a GROUP FITS a CELL.");
        CrystalHouse house = Due.houseOf("-x,y,-z");
        house.group();
        house.cell(4, 9, 16, 0, 2, 0);
        house.cell(4, 9, 16, 1, 2, 0);
        DUE.is("fits(0, 0)", house.fits(0, 0), true);
        DUE.is("fits(0, 1)", house.fits(0, 1), false);
        DUE.is("fits(1, 1)", house.fits(1, 1), true);
    }

    private static void fitsNone() {
        DUE.sentence("Whether a GROUP FITS a CELL. False when there are no such ones.");
        CrystalHouse house = Due.houseOf();
        house.cell(4, 9, 16, 0, 2, 0);
        for (int number : Due.noneOf(1)) {
            DUE.is("fits(" + number + ", 0)", house.fits(number, 0), false);
            DUE.is("fits(0, " + number + ")", house.fits(0, number), false);
            DUE.is("fits(" + number + ", " + number + ")", house.fits(number, number), false);
        }
        DUE.is("fits(0, 0)", house.fits(0, 0), true);
        CrystalHouse empty = new CrystalHouse();
        DUE.is("fits(0, 0) of nothing", empty.fits(0, 0), false);
    }

    private static void differentMultiples() {
        DUE.sentence("How many different MULTIPLES by n a CELL has.");
        CrystalHouse house = houseOf(1, 1, 1, 0, 0, 0);
        house.cell(1, 1, 1000, 0, 0, 0);
        DUE.is("of a cube by 2", house.multiples(0, 2), 3);
        // c doubled; a doubled or b doubled; a + b and a - b; a + c with a - c or b + c with b - c; and the one of all faces.
        DUE.is("of a square pillar by 2", house.multiples(1, 2), 5);
        DUE.is("of a cube by 1", house.multiples(0, 1), 1);
        DUE.is("of a cube by 2, again", house.multiples(0, 2), 3);
    }

    private static void multiplesNone() {
        DUE.sentence("NONE when there is none such, or n isn't 1 .. 12.");
        CrystalHouse house = houseOf(1, 1, 1, 0, 0, 0);
        for (int n : Due.beyond(1, 12)) {
            DUE.is("multiples(0, " + n + ")", house.multiples(0, n), NONE);
        }
        for (int number : Due.noneOf(1)) {
            DUE.is("multiples(" + number + ", 1)", house.multiples(number, 1), NONE);
            DUE.is("multiples(" + number + ", 12)", house.multiples(number, 12), NONE);
        }
        DUE.is("multiples(0, 12)", house.multiples(0, 12) > 0, true);
    }

    private static void multiple() {
        DUE.sentence("Of the k-th MULTIPLE A to F (what 0 to 5).");
        CrystalHouse house = houseOf(1, 1, 1, 0, 0, 0);
        long[][] due = {{1, 1, 4, 0, 0, 0}, {1, 2, 2, 0, 0, 0}, {2, 2, 2, 1, 1, 1}};
        for (int k = 0; k < 3; k++) {
            for (int what = 0; what < 6; what++) {
                DUE.is("multiple(0, 2, " + k + ", " + what + ")", house.multiple(0, 2, k, what), due[k][what]);
            }
        }
        // The edges are so long that X Y Z is beyond a long.
        CrystalHouse great = houseOf(10000, 10000, 10000, 0, 0, 0);
        int count = houseOf(1, 1, 1, 0, 0, 0).multiples(0, 12);
        DUE.is("of a great cube by 12", great.multiples(0, 12), count);
        for (int k = 0; k < count; k++) {
            long[] small = six(houseOf(1, 1, 1, 0, 0, 0), 12, k);
            for (int what = 0; what < 6; what++) {
                DUE.is("multiple(0, 12, " + k + ", " + what + ")", great.multiple(0, 12, k, what), 10000 * small[what]);
            }
        }
    }

    private static void multipleNone() {
        DUE.sentence("Of the k-th MULTIPLE A to F (what 0 to 5). 0 when there is none such.");
        CrystalHouse house = houseOf(1, 1, 1, 0, 0, 0);
        for (int n : Due.beyond(1, 12)) {
            DUE.is("multiple(0, " + n + ", 0, 0)", house.multiple(0, n, 0, 0), 0);
        }
        for (int number : Due.noneOf(1)) {
            DUE.is("multiple(" + number + ", 2, 0, 0)", house.multiple(number, 2, 0, 0), 0);
        }
        for (int k : Due.noneOf(3)) {
            DUE.is("multiple(0, 2, " + k + ", 0)", house.multiple(0, 2, k, 0), 0);
        }
        for (int what : Due.beyond(0, 5)) {
            DUE.is("multiple(0, 2, 2, " + what + ")", house.multiple(0, 2, 2, what), 0);
        }
        CrystalHouse skew = houseOf(1009, 2003, 3001, 101, 57, 211);
        DUE.is("the last of 455", skew.multiple(0, 12, 454, 0) > 0, true);
        DUE.is("behind the last of 455", skew.multiple(0, 12, 455, 0), 0);
    }
}

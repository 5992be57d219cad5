/** Promises 19 to 23: cells, what they are reduced to, and their multiples. */
public final class CellsTest {
    private static final int NONE = CrystalHouse.NONE;
    private static final Due DUE = new Due();

    public static void main(String[] args) {
        cell();
        reduced();
        reducedOfOneLattice();
        symmetry();
        fits();
        multiples();
        multiple();
        DUE.close("promises 19 to 23 hold");
    }

    private static void cell() {
        DUE.promise(19);
        CrystalHouse house = new CrystalHouse();
        DUE.is("the least", house.cell(1, 1, 1, 0, 0, 0), 0);
        DUE.is("the greatest", house.cell(10000, 10000, 10000, 9999, 9999, 9999), 1);
        DUE.is("A 0", house.cell(0, 1, 1, 0, 0, 0), NONE);
        DUE.is("B 0", house.cell(1, 0, 1, 0, 0, 0), NONE);
        DUE.is("C 0", house.cell(1, 1, 0, 0, 0, 0), NONE);
        DUE.is("A 10001", house.cell(10001, 1, 1, 0, 0, 0), NONE);
        DUE.is("B 10001", house.cell(1, 10001, 1, 0, 0, 0), NONE);
        DUE.is("C 10001", house.cell(1, 1, 10001, 0, 0, 0), NONE);
        DUE.is("A B - F F 0", house.cell(4, 9, 16, 0, 0, 6), NONE);
        DUE.is("A B - F F below 0", house.cell(4, 9, 16, 0, 0, -7), NONE);
        DUE.is("determinant 0", house.cell(1, 1, 1, 1, 0, 0), NONE);
        DUE.is("determinant 0", house.cell(2, 2, 2, -1, -1, -1), NONE);
        DUE.is("determinant below 0", house.cell(10, 10, 10, 9, 9, -9), NONE);
        DUE.is("D beyond", house.cell(10000, 10000, 10000, 10001, 0, 0), NONE);
        DUE.is("E beyond", house.cell(10000, 10000, 10000, 0, -10001, 0), NONE);
        DUE.is("F of the least", house.cell(10000, 10000, 10000, 0, 0, Integer.MIN_VALUE), NONE);
        DUE.is("A of the greatest", house.cell(Integer.MAX_VALUE, 1, 1, 0, 0, 0), NONE);
        for (int i = 2; i < 40; i++) {
            DUE.is("cell()", house.cell(i, 1, 1, 0, 0, 0), i);
        }
        DUE.is("cell beyond 40", house.cell(1, 1, 1, 0, 0, 0), NONE);
        DUE.is("reduced(39, 2)", house.reduced(39, 2), 39);
        DUE.is("reduced(40, 2)", house.reduced(40, 2), 0);
        DUE.is("multiples(40, 2)", house.multiples(40, 2), NONE);
    }

    private static void reducedOf(int[] told, int... due) {
        CrystalHouse house = new CrystalHouse();
        house.cell(told[0], told[1], told[2], told[3], told[4], told[5]);
        for (int what = 0; what < 6; what++) {
            DUE.is("reduced(" + java.util.Arrays.toString(told) + ", " + what + ")", house.reduced(0, what), due[what]);
        }
    }

    private static void reduced() {
        DUE.promise(20);
        reducedOf(new int[] {4, 9, 16, 0, 0, 0}, 4, 9, 16, 0, 0, 0);
        reducedOf(new int[] {16, 9, 4, 0, 0, 0}, 4, 9, 16, 0, 0, 0);
        reducedOf(new int[] {9, 16, 4, 0, 0, 0}, 4, 9, 16, 0, 0, 0);
        reducedOf(new int[] {4, 9, 16, 0, 2, 0}, 4, 9, 16, 0, -2, 0);
        // The primitive cell of a face-centred cube is told by angles of 60 or 120 degrees, and is reduced to 60.
        reducedOf(new int[] {10, 10, 10, 5, 5, 5}, 10, 10, 10, 5, 5, 5);
        reducedOf(new int[] {10, 10, 20, -10, 0, 0}, 10, 10, 10, 0, 0, 0);
        // Body-centred: the three products are a third of the squares, below 0.
        reducedOf(new int[] {3, 3, 3, -1, -1, -1}, 3, 3, 3, -1, -1, -1);
        reducedOf(new int[] {3, 3, 3, 1, 1, -1}, 3, 3, 3, -1, -1, -1);
        reducedOf(new int[] {1, 1, 10000, 0, 99, 0}, 1, 1, 199, 0, 0, 0);
        reducedOf(new int[] {1, 10000, 10000, 50, 0, 99}, 1, 199, 10000, -50, 0, 0);
        reducedByEqualities();
        CrystalHouse house = new CrystalHouse();
        house.cell(4, 9, 16, 1, 2, 3);
        DUE.is("the determinant", house.reduced(0, 7), 4 * 9 * 16 + 2 * 1 * 2 * 3 - 4 * 1 - 9 * 4 - 16 * 9);
        DUE.is("what 8", house.reduced(0, 8), 0);
        DUE.is("what -1", house.reduced(0, -1), 0);
        DUE.is("no cell", house.reduced(1, 0), 0);
        DUE.is("cell -1", house.reduced(-1, 0), 0);
    }

    /** Where a step's first condition doesn't hold, but one with an equality does, or just doesn't. */
    private static void reducedByEqualities() {
        reducedOf(new int[] {10, 12, 20, 6, 1, 3}, 10, 12, 20, 6, 2, 3);
        reducedOf(new int[] {10, 12, 20, 6, 2, 4}, 10, 12, 20, 6, 2, 4);
        reducedOf(new int[] {10, 12, 20, -6, -1, -2}, 10, 12, 20, 6, 3, 2);
        reducedOf(new int[] {10, 12, 20, -6, -1, 0}, 10, 12, 20, -6, -1, 0);
        reducedOf(new int[] {10, 12, 20, 1, 5, 3}, 10, 12, 20, 2, 5, 3);
        reducedOf(new int[] {10, 12, 20, 2, 5, 4}, 10, 12, 20, 2, 5, 4);
        reducedOf(new int[] {10, 12, 20, -1, -5, -2}, 10, 12, 20, 3, 5, 2);
        reducedOf(new int[] {10, 12, 20, -1, -5, 0}, 10, 12, 20, -1, -5, 0);
        reducedOf(new int[] {10, 12, 20, 1, 3, 5}, 10, 12, 20, 2, 3, 5);
        reducedOf(new int[] {10, 12, 20, 2, 4, 5}, 10, 12, 20, 2, 4, 5);
        reducedOf(new int[] {10, 12, 20, -1, -2, -5}, 10, 12, 20, 3, 2, 5);
        reducedOf(new int[] {10, 12, 20, -1, 0, -5}, 10, 12, 20, -1, 0, -5);
        reducedOf(new int[] {10, 10, 20, -4, -4, -4}, 10, 10, 16, -2, -2, -4);
        reducedOf(new int[] {10, 12, 20, -5, -3, -3}, 10, 12, 20, -4, -4, -3);
        reducedOf(new int[] {10, 12, 20, -4, -4, -3}, 10, 12, 20, -4, -4, -3);
    }

    /** Whatever edges a lattice is told by, it is reduced to the same six numbers. */
    private static void reducedOfOneLattice() {
        DUE.promise(20);
        Numbers numbers = new Numbers(5);
        for (int turn = 0; turn < 400; turn++) {
            int half = numbers.from(2, 9);
            long[] six = {2 * half, numbers.once(2) ? 2 * half : numbers.from(2 * half, 30), 40, half * numbers.from(-1, 1),
                half * numbers.from(-1, 1), half * numbers.from(-1, 1)};
            long[] other = six.clone();
            for (int i = 0; i < 3; i++) {
                long[][] edges = {{1, 0, 0}, {0, 1, 0}, {0, 0, 1}};
                edges[numbers.below(3)][numbers.below(3)] += numbers.pick(1, -1);
                long[] next = Oracle.made(other, edges[0], edges[1], edges[2]);
                boolean fine = Oracle.det(Oracle.rows(next)) == Oracle.det(Oracle.rows(six));
                other = fine ? next : other;
            }
            CrystalHouse house = new CrystalHouse();
            int first = house.cell((int) six[0], (int) six[1], (int) six[2], (int) six[3], (int) six[4], (int) six[5]);
            int second = house.cell((int) other[0], (int) other[1], (int) other[2], (int) other[3], (int) other[4],
                (int) other[5]);
            for (int what = 0; what < 8 && first != NONE && second != NONE; what++) {
                DUE.is("reduced of one lattice", house.reduced(first, what), house.reduced(second, what));
            }
        }
    }

    private static void symmetryOf(int due, int... told) {
        CrystalHouse house = new CrystalHouse();
        house.cell(told[0], told[1], told[2], told[3], told[4], told[5]);
        DUE.is("the symmetry of " + java.util.Arrays.toString(told), house.reduced(0, 6), due);
        DUE.is("the symmetry again", house.reduced(0, 6), due);
    }

    private static void symmetry() {
        DUE.promise(20);
        symmetryOf(48, 7, 7, 7, 0, 0, 0);
        symmetryOf(48, 10, 10, 10, 5, 5, 5);
        symmetryOf(48, 3, 3, 3, -1, -1, -1);
        symmetryOf(24, 10, 10, 33, 0, 0, -5);
        symmetryOf(24, 10, 10, 33, 0, 0, 5);
        symmetryOf(16, 7, 7, 9, 0, 0, 0);
        symmetryOf(16, 9, 7, 7, 0, 0, 0);
        symmetryOf(12, 10, 10, 10, 1, 1, 1);
        symmetryOf(8, 4, 9, 16, 0, 0, 0);
        symmetryOf(4, 4, 9, 16, 0, 1, 0);
        symmetryOf(2, 40, 90, 160, 3, 5, 7);
        symmetryOf(16, 1, 1, 10000, 0, 99, 0);
    }

    private static void fits() {
        DUE.promise(21);
        CrystalHouse house = new CrystalHouse();
        int four = Due.group(house, "-y,x,z");
        int three = Due.group(house, "-y,x-y,z");
        int one = house.group();
        int monoclinic = Due.group(house, "-x,y+1/2,-z+1/2", "-x,-y,-z");
        int cubic = house.cell(7, 7, 7, 0, 0, 0);
        int tetragonal = house.cell(7, 7, 9, 0, 0, 0);
        int hexagonal = house.cell(10, 10, 9, 0, 0, -5);
        int acute = house.cell(10, 10, 9, 0, 0, 5);
        int slanted = house.cell(4, 9, 16, 0, 1, 0);
        int triclinic = house.cell(40, 90, 160, 3, 5, 7);
        int turned = house.cell(9, 7, 7, 0, 0, 0);
        DUE.is("four fits cubic", house.fits(four, cubic), true);
        DUE.is("four fits tetragonal", house.fits(four, tetragonal), true);
        DUE.is("four fits another axis", house.fits(four, turned), false);
        DUE.is("four fits hexagonal", house.fits(four, hexagonal), false);
        DUE.is("three fits hexagonal", house.fits(three, hexagonal), true);
        DUE.is("three fits the acute one", house.fits(three, acute), false);
        DUE.is("three fits cubic", house.fits(three, cubic), false);
        DUE.is("monoclinic fits slanted", house.fits(monoclinic, slanted), true);
        DUE.is("monoclinic fits triclinic", house.fits(monoclinic, triclinic), false);
        DUE.is("one fits triclinic", house.fits(one, triclinic), true);
        DUE.is("no group", house.fits(9, cubic), false);
        DUE.is("no cell", house.fits(one, 9), false);
        DUE.is("group -1", house.fits(-1, cubic), false);
        DUE.is("cell -1", house.fits(one, -1), false);
    }

    private static void multiples() {
        DUE.promise(22);
        CrystalHouse house = new CrystalHouse();
        int cubic = house.cell(1, 1, 1, 0, 0, 0);
        int triclinic = house.cell(1009, 2003, 3001, 101, 57, 211);
        // Of a cube: by 2 one long, one slanted square, the face-centred cell; of a skew one all lattices differ.
        int[] ofCube = {1, 3, 3};
        int[] ofAny = {1, 7, 13, 35, 31, 91, 57, 155, 130, 217, 133, 455};
        for (int n = 1; n <= 12; n++) {
            DUE.is("multiples of a skew cell by " + n, house.multiples(triclinic, n), ofAny[n - 1]);
        }
        for (int n = 1; n <= 3; n++) {
            DUE.is("multiples of a cube by " + n, house.multiples(cubic, n), ofCube[n - 1]);
        }
        DUE.is("behind the last", house.multiple(triclinic, 12, 455, 0), 0);
        DUE.is("the last", house.multiple(triclinic, 12, 454, 0) > 0, true);
        DUE.is("by 0", house.multiples(cubic, 0), NONE);
        DUE.is("by 13", house.multiples(cubic, 13), NONE);
        DUE.is("by -1", house.multiples(cubic, -1), NONE);
        DUE.is("no cell", house.multiples(2, 1), NONE);
        DUE.is("cell -1", house.multiples(-1, 1), NONE);
    }

    private static void multiple() {
        DUE.promise(23);
        CrystalHouse house = new CrystalHouse();
        house.cell(1, 1, 1, 0, 0, 0);
        long[][] byTwo = {{1, 1, 4, 0, 0, 0}, {1, 2, 2, 0, 0, 0}, {2, 2, 2, 1, 1, 1}};
        for (int k = 0; k < 3; k++) {
            for (int what = 0; what < 6; what++) {
                DUE.is("multiple(0, 2, " + k + ", " + what + ")", house.multiple(0, 2, k, what), byTwo[k][what]);
            }
        }
        DUE.is("multiple(0, 2, 3, 0)", house.multiple(0, 2, 3, 0), 0);
        DUE.is("multiple(0, 2, -1, 0)", house.multiple(0, 2, -1, 0), 0);
        DUE.is("multiple(0, 2, 0, 6)", house.multiple(0, 2, 0, 6), 0);
        DUE.is("multiple(0, 2, 0, -1)", house.multiple(0, 2, 0, -1), 0);
        DUE.is("multiple(0, 0, 0, 0)", house.multiple(0, 0, 0, 0), 0);
        DUE.is("multiple(0, 13, 0, 0)", house.multiple(0, 13, 0, 0), 0);
        DUE.is("multiple(1, 2, 0, 0)", house.multiple(1, 2, 0, 0), 0);
        DUE.is("multiple(-1, 2, 0, 0)", house.multiple(-1, 2, 0, 0), 0);
        DUE.is("multiple(0, 1, 0, 0)", house.multiple(0, 1, 0, 0), 1);
        // The edges are so long that X Y Z of a multiple is beyond a long.
        int count = house.multiples(0, 12);
        CrystalHouse great = new CrystalHouse();
        great.cell(10000, 10000, 10000, 0, 0, 0);
        DUE.is("multiples of a long cube", great.multiples(0, 12), count);
        for (int k = 0; k < count; k++) {
            for (int what = 0; what < 6; what++) {
                DUE.is("multiple of a long cube", great.multiple(0, 12, k, what), 10000 * house.multiple(0, 12, k, what));
            }
        }
    }
}

/** Promises 33 and 34: phases, and how far they are above the hull. */
public final class PhasesTest {
    private static final int NONE = CrystalHouse.NONE;
    private static final Due DUE = new Due();

    public static void main(String[] args) {
        phase();
        above();
        aboveOfOneShare();
        aboveOfGreatNumbers();
        aboveEdges();
        DUE.close("promises 33 and 34 hold");
    }

    private static void phase() {
        DUE.promise(33);
        CrystalHouse house = new CrystalHouse();
        DUE.is("0 0", house.phase(0, 0, 5), NONE);
        DUE.is("-1 1", house.phase(-1, 1, 5), NONE);
        DUE.is("1 -1", house.phase(1, -1, 5), NONE);
        DUE.is("100 0", house.phase(100, 0, 5), NONE);
        DUE.is("0 100", house.phase(0, 100, 5), NONE);
        DUE.is("too much energy", house.phase(1, 1, 100000001L), NONE);
        DUE.is("too little energy", house.phase(1, 1, -100000001L), NONE);
        DUE.is("the greatest", house.phase(1, 1, Long.MAX_VALUE), NONE);
        DUE.is("the least", house.phase(1, 1, Long.MIN_VALUE), NONE);
        DUE.is("sums that wrap", house.phase(Integer.MIN_VALUE, Integer.MIN_VALUE, 0), NONE);
        DUE.is("99 99", house.phase(99, 99, 100000000L), 0);
        DUE.is("0 99", house.phase(0, 99, -100000000L), 1);
        DUE.is("99 0", house.phase(99, 0, 0), 2);
        for (int i = 3; i < 40; i++) {
            DUE.is("phase()", house.phase(i, 1, i), i);
        }
        DUE.is("phase beyond 40", house.phase(1, 1, 0), NONE);
    }

    private static void aboveIs(CrystalHouse house, int phase, long upper, long lower) {
        DUE.is("above(" + phase + ", 0)", house.above(phase, 0), upper);
        DUE.is("above(" + phase + ", 1)", house.above(phase, 1), lower);
    }

    private static void above() {
        DUE.promise(34);
        CrystalHouse house = new CrystalHouse();
        house.phase(1, 0, 0);
        aboveIs(house, 0, 0, 1);
        house.phase(0, 1, 6);
        aboveIs(house, 1, 0, 1);
        DUE.is("how many", house.above(0, 2), 2);
        // At a share of 1/3 the hull is 2, at 1/2 it is 3.
        house.phase(2, 1, 7);
        aboveIs(house, 2, 1, 3);
        house.phase(1, 1, 6);
        aboveIs(house, 3, 0, 1);
        DUE.is("how many, one on the line", house.above(0, 2), 3);
        house.phase(1, 3, -4);
        // Now the hull goes from 0 to -1 at 3/4: -4/9 at 1/3, -2/3 at 1/2.
        aboveIs(house, 2, 25, 9);
        aboveIs(house, 3, 11, 3);
        aboveIs(house, 4, 0, 1);
        aboveIs(house, 1, 0, 1);
        DUE.is("how many", house.above(0, 2), 3);
    }

    private static void aboveOfOneShare() {
        DUE.promise(34);
        CrystalHouse house = new CrystalHouse();
        house.phase(1, 2, 10);
        aboveIs(house, 0, 0, 1);
        house.phase(2, 4, 16);
        aboveIs(house, 0, 2, 3);
        aboveIs(house, 1, 0, 1);
        house.phase(33, 66, 264);
        aboveIs(house, 2, 0, 1);
        DUE.is("how many of one share", house.above(0, 2), 2);
        // The hull ends at the least and the greatest share: it isn't bound by more than what is there.
        house.phase(3, 0, -3000);
        aboveIs(house, 0, 2, 3);
        house.phase(0, 1, 5000);
        aboveIs(house, 0, 2, 3);
        aboveIs(house, 1, 0, 1);
        house.phase(0, 5, 0);
        aboveIs(house, 4, 5000, 1);
        // From -1000 at 0 to 0 at 1: at 2/3 it is -1000/3, the level is 10/3.
        aboveIs(house, 0, 1010, 3);
        aboveIs(house, 1, 336, 1);
    }

    private static void aboveOfGreatNumbers() {
        DUE.promise(34);
        CrystalHouse house = new CrystalHouse();
        house.phase(99, 1, -100000000L);
        house.phase(98, 99, 100000000L);
        house.phase(1, 99, -99999999L);
        Oracle oracle = new Oracle();
        oracle.phase(99, 1, -100000000L);
        oracle.phase(98, 99, 100000000L);
        oracle.phase(1, 99, -99999999L);
        aboveIs(house, 1, oracle.above(1, 0), oracle.above(1, 1));
        DUE.is("its upper number is great", house.above(1, 0) > 100000000L, true);
    }

    private static void aboveEdges() {
        DUE.promise(34);
        CrystalHouse house = new CrystalHouse();
        DUE.is("how many of none", house.above(-5, 2), 0);
        house.phase(1, 1, 7);
        DUE.is("how many, of any number", house.above(99, 2), 1);
        DUE.is("how many, of any number", house.above(Integer.MIN_VALUE, 2), 1);
        DUE.is("above(1, 0)", house.above(1, 0), 0);
        DUE.is("above(1, 1)", house.above(1, 1), 0);
        DUE.is("above(-1, 1)", house.above(-1, 1), 0);
        DUE.is("above(0, 3)", house.above(0, 3), 0);
        DUE.is("above(0, -1)", house.above(0, -1), 0);
        DUE.is("above(0, 1)", house.above(0, 1), 1);
    }
}

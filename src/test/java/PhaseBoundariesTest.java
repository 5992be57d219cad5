import java.math.BigInteger;

/** Each sentence about phases (Terms 6, promises 33 and 34) at its boundaries, and a house that is used for 512 calls. */
public final class PhaseBoundariesTest {
    private static final int NONE = CrystalHouse.NONE;
    private static final long MOST = 100_000_000L;
    private static final Due DUE = new Due();

    public static void main(String[] args) {
        fortyPhases();
        counts();
        energies();
        sharesAndLevels();
        hullFromLeastToGreatest();
        hullIsConvex();
        lowestTerms();
        phaseNumber();
        phaseRefused();
        above();
        aboveNone();
        allCalls();
        DUE.close("phases hold at their boundaries");
    }

    private static void aboveIs(CrystalHouse house, int phase, long upper, long lower) {
        DUE.is("above(" + phase + ", 0)", house.above(phase, 0), upper);
        DUE.is("above(" + phase + ", 1)", house.above(phase, 1), lower);
    }

    // ---- Terms 6 ----

    private static void fortyPhases() {
        DUE.sentence("PHASES, 40 at most,");
        CrystalHouse house = new CrystalHouse();
        for (int i = 0; i < 40; i++) {
            DUE.is("phase " + i, house.phase(1, 1, i), i);
            DUE.is("a refused one has no number", house.phase(0, 0, i), NONE);
        }
        DUE.is("one more", house.phase(1, 1, -MOST), NONE);
        aboveIs(house, 0, 0, 1);
        aboveIs(house, 39, 39, 2);
        aboveIs(house, 40, 0, 0);
        DUE.is("how many", house.above(0, 2), 1);
        // Of 40 shares, whose levels are on a curve upwards: all are on the hull, and of one less all but one.
        CrystalHouse shares = new CrystalHouse();
        CrystalHouse raised = new CrystalHouse();
        for (int i = 0; i < 40; i++) {
            shares.phase(99 - i, i, 99 * i * i);
            raised.phase(99 - i, i, 99 * i * i + (i == 20 ? 99 * 2 : 0));
        }
        for (int i = 0; i < 40; i++) {
            aboveIs(shares, i, 0, 1);
            aboveIs(raised, i, i == 20 ? 1 : 0, 1);
        }
        DUE.is("how many of 40 shares", shares.above(0, 2), 40);
        DUE.is("how many, one raised", raised.above(0, 2), 39);
    }

    private static void counts() {
        DUE.sentence("have two counts, p and q, 0 .. 99, not both 0,");
        for (int p = -1; p <= 100; p++) {
            for (int q : new int[] {-1, 0, 1, 98, 99, 100}) {
                boolean fine = p >= 0 && p <= 99 && q >= 0 && q <= 99 && p + q > 0;
                DUE.is("phase(" + p + ", " + q + ", 0)", new CrystalHouse().phase(p, q, 0), fine ? 0 : NONE);
                DUE.is("phase(" + q + ", " + p + ", 0)", new CrystalHouse().phase(q, p, 0), fine ? 0 : NONE);
            }
        }
        for (int wrong : Due.beyond(0, 99)) {
            DUE.is("phase(" + wrong + ", 1, 0)", new CrystalHouse().phase(wrong, 1, 0), NONE);
            DUE.is("phase(1, " + wrong + ", 0)", new CrystalHouse().phase(1, wrong, 0), NONE);
            DUE.is("counts that together are 1", new CrystalHouse().phase(wrong, 1 - wrong, 0), NONE);
            DUE.is("counts that together are 0", new CrystalHouse().phase(wrong, -wrong, 0), NONE);
        }
    }

    private static void energies() {
        DUE.sentence("and an energy, any from -10^8 to 10^8.");
        long[] fine = {-MOST, 1 - MOST, -1, 0, 1, MOST - 1, MOST};
        for (long energy : fine) {
            DUE.is("an energy of " + energy, new CrystalHouse().phase(1, 0, energy), 0);
        }
        long[] wrong = {-MOST - 1, MOST + 1, Long.MIN_VALUE, Long.MAX_VALUE, 1L << 32, -(1L << 32), (1L << 32) + 5, (1L << 63) + 5,
            Integer.MIN_VALUE, Integer.MAX_VALUE, 1_000_000_000L};
        for (long energy : wrong) {
            DUE.is("an energy of " + energy, new CrystalHouse().phase(1, 0, energy), NONE);
        }
    }

    private static void sharesAndLevels() {
        DUE.sentence("Its SHARE is q / (p + q), its LEVEL energy / (p + q).");
        CrystalHouse house = new CrystalHouse();
        // Shares of 0, 1/2 and 1; levels of 10, 7 and 0: the hull at 1/2 is 5.
        house.phase(3, 0, 30);
        house.phase(5, 5, 70);
        house.phase(0, 99, 0);
        aboveIs(house, 0, 0, 1);
        aboveIs(house, 1, 2, 1);
        aboveIs(house, 2, 0, 1);
        // A share of 1/3, where the hull is 20/3; a level of 8.
        house.phase(2, 1, 24);
        aboveIs(house, 3, 4, 3);
        // Equal shares, told by other counts: a level of 7 1/2.
        house.phase(66, 33, 792);
        aboveIs(house, 4, 4, 3);
    }

    private static void hullFromLeastToGreatest() {
        DUE.sentence("The HULL: the greatest function of the share, from the least share told to the greatest,");
        CrystalHouse house = new CrystalHouse();
        house.phase(1, 1, MOST);
        aboveIs(house, 0, 0, 1);
        // Of the same share alone, the lowest level counts, and the others are above it.
        house.phase(2, 2, MOST);
        aboveIs(house, 0, MOST / 4, 1);
        aboveIs(house, 1, 0, 1);
        // A lower level at another share doesn't matter as long as all others are on one side.
        house.phase(1, 0, -MOST);
        aboveIs(house, 1, 0, 1);
        aboveIs(house, 2, 0, 1);
        house.phase(3, 1, MOST);
        // At 1/4, between -10^8 at 0 and 25 million at 1/2, the hull is -37.5 million; the level is 25 million.
        aboveIs(house, 3, 62_500_000, 1);
        DUE.is("how many", house.above(0, 2), 2);
        // At the very ends there are several: the least of them counts.
        house.phase(2, 0, -MOST);
        aboveIs(house, 4, MOST / 2, 1);
        house.phase(99, 0, -MOST);
        // -10^8 / 99 less -10^8.
        aboveIs(house, 5, 98 * MOST, 99);
    }

    private static void hullIsConvex() {
        DUE.sentence("curved upwards (convex), that isn't above any PHASE's LEVEL at its SHARE.");
        CrystalHouse house = new CrystalHouse();
        house.phase(1, 0, 0);
        house.phase(0, 1, 0);
        house.phase(1, 1, 0);
        // On the line between two others: above by 0.
        aboveIs(house, 2, 0, 1);
        DUE.is("how many on a line", house.above(0, 2), 3);
        house.phase(1, 1, 1);
        aboveIs(house, 3, 1, 2);
        house.phase(3, 1, -4);
        // Now the hull goes through -1 at 1/4: at 1/2 it is -2/3.
        aboveIs(house, 2, 2, 3);
        aboveIs(house, 3, 7, 6);
        house.phase(1, 3, -4);
        // And through -1 at 3/4: at 1/2 it is -1.
        aboveIs(house, 2, 1, 1);
        aboveIs(house, 4, 0, 1);
        aboveIs(house, 5, 0, 1);
        house.phase(3, 5, -8);
        // At 5/8 it is -1, on the line between these two.
        aboveIs(house, 6, 0, 1);
        DUE.is("how many", house.above(0, 2), 5);
        house.phase(1, 1, -2);
        aboveIs(house, 7, 0, 1);
        house.phase(1, 1, -3);
        // Below them: at 5/8, between -3/2 at 1/2 and -1 at 3/4, it is -5/4.
        aboveIs(house, 6, 1, 4);
        aboveIs(house, 7, 1, 2);
        DUE.is("how many", house.above(0, 2), 5);
        hullByBrute();
    }

    /** Against the least of all phases of a share and all mixtures of two around it, in whole numbers without an end. */
    private static void hullByBrute() {
        Numbers numbers = new Numbers(77);
        for (int turn = 0; turn < 200; turn++) {
            CrystalHouse house = new CrystalHouse();
            int count = numbers.from(1, 12);
            long[][] all = new long[count][];
            for (int i = 0; i < count; i++) {
                boolean small = turn % 2 == 0;
                long p = small ? numbers.from(0, 3) : numbers.pick(0, 1, 97, 98, 99, numbers.below(100));
                long q = small ? numbers.from(1, 3) : numbers.pick(1, 2, 97, 98, 99, 1 + numbers.below(99));
                long energy = small ? numbers.from(-6, 3) : numbers.pick(-100000000, 100000000, 99999999, -99999999, numbers.from(-1000, 1000));
                all[i] = new long[] {p, q, energy};
                house.phase((int) p, (int) q, energy);
            }
            for (int k = 0; k < count; k++) {
                BigInteger[] due = brute(all, k);
                aboveIs(house, k, due[0].longValueExact(), due[1].longValueExact());
            }
        }
    }

    private static BigInteger big(long n) {
        return BigInteger.valueOf(n);
    }

    private static BigInteger[] brute(long[][] all, int k) {
        BigInteger[] most = {BigInteger.ZERO, BigInteger.ONE};
        long own = all[k][0] + all[k][1];
        for (long[] a : all) {
            for (long[] b : all) {
                long wa = a[0] + a[1];
                long wb = b[0] + b[1];
                // Shares less that of k, over the same lower number: one at or below 0, one at or above it.
                long da = a[1] * own - all[k][1] * wa;
                long db = b[1] * own - all[k][1] * wb;
                if (da > 0 || db < 0) {
                    continue;
                }
                // The mixture is of parts db wa and -da wb, or of a alone if both shares are k's.
                long ma = da == 0 && db == 0 ? 1 : db;
                long mb = da == 0 && db == 0 ? 0 : -da;
                BigInteger weight = big(ma).multiply(big(wa)).add(big(mb).multiply(big(wb)));
                BigInteger energy = big(ma).multiply(big(a[2])).add(big(mb).multiply(big(b[2])));
                BigInteger up = big(all[k][2]).multiply(weight).subtract(energy.multiply(big(own)));
                BigInteger low = weight.multiply(big(own));
                if (up.multiply(most[1]).compareTo(most[0].multiply(low)) > 0) {
                    most = new BigInteger[] {up, low};
                }
            }
        }
        BigInteger common = most[0].gcd(most[1]);
        return new BigInteger[] {most[0].divide(common), most[1].divide(common)};
    }

    private static void lowestTerms() {
        DUE.sentence("ABOVE: LEVEL less the HULL at that SHARE: a fraction in lowest terms, its lower number above 0.");
        CrystalHouse house = new CrystalHouse();
        house.phase(4, 4, -6);
        // 0 is 0 / 1, also where the level is a fraction.
        aboveIs(house, 0, 0, 1);
        house.phase(3, 3, -3);
        // -1/2 less -3/4.
        aboveIs(house, 1, 1, 4);
        house.phase(1, 1, 6);
        aboveIs(house, 2, 15, 4);
        house.phase(6, 6, 3);
        aboveIs(house, 3, 1, 1);
        CrystalHouse great = new CrystalHouse();
        great.phase(99, 98, -MOST);
        great.phase(99, 99, MOST);
        great.phase(98, 99, -MOST);
        // At 1/2, halfway between both: 10^8 / 198 and 10^8 / 197.
        aboveIs(great, 1, MOST * 395 / 2, 19503);
    }

    // ---- promises 33 and 34 ----

    private static void phaseNumber() {
        DUE.sentence("A new PHASE: its number.");
        CrystalHouse house = new CrystalHouse();
        DUE.is("the first", house.phase(1, 0, 5), 0);
        DUE.is("an equal one is a new one", house.phase(1, 0, 5), 1);
        DUE.is("another one", house.phase(0, 1, -5), 2);
        DUE.is("how many", house.above(0, 2), 3);
    }

    private static void phaseRefused() {
        DUE.sentence("`int phase(int p, int q, long energy)`: A new PHASE: its number. NONE, refused, when there are 40, or it is not as said.");
        CrystalHouse house = new CrystalHouse();
        house.phase(1, 1, 0);
        DUE.is("0 0", house.phase(0, 0, -9), NONE);
        DUE.is("100 1", house.phase(100, 1, -9), NONE);
        DUE.is("1 100", house.phase(1, 100, -9), NONE);
        DUE.is("-1 1", house.phase(-1, 1, -9), NONE);
        DUE.is("1 -1", house.phase(1, -1, -9), NONE);
        DUE.is("too low", house.phase(1, 1, -MOST - 1), NONE);
        DUE.is("too high", house.phase(1, 1, MOST + 1), NONE);
        aboveIs(house, 0, 0, 1);
        aboveIs(house, 1, 0, 0);
        DUE.is("how many", house.above(0, 2), 1);
        for (int i = 1; i < 40; i++) {
            DUE.is("phase " + i, house.phase(1, 1, i), i);
        }
        DUE.is("beyond 40", house.phase(1, 1, -9), NONE);
        aboveIs(house, 0, 0, 1);
        aboveIs(house, 40, 0, 0);
    }

    private static void above() {
        DUE.sentence("ABOVE of a PHASE: the upper number (what 0) or the lower one (1); how many PHASES have ABOVE 0 (2).");
        CrystalHouse house = new CrystalHouse();
        DUE.is("how many of none", house.above(0, 2), 0);
        house.phase(1, 0, 0);
        house.phase(0, 1, 0);
        house.phase(1, 2, 5);
        DUE.is("the upper number", house.above(2, 0), 5);
        DUE.is("the lower number", house.above(2, 1), 3);
        DUE.is("how many", house.above(2, 2), 2);
        DUE.is("the upper number, again", house.above(2, 0), 5);
    }

    private static void aboveNone() {
        DUE.sentence("0 when there is none such (what 2: of any number), or for another what.");
        CrystalHouse house = new CrystalHouse();
        house.phase(1, 1, 7);
        house.phase(1, 1, 8);
        for (int phase : Due.noneOf(2)) {
            DUE.is("above(" + phase + ", 0)", house.above(phase, 0), 0);
            DUE.is("above(" + phase + ", 1)", house.above(phase, 1), 0);
            DUE.is("above(" + phase + ", 2)", house.above(phase, 2), 1);
            DUE.is("above(" + phase + ", 3)", house.above(phase, 3), 0);
        }
        for (int what : Due.beyond(0, 2)) {
            DUE.is("above(1, " + what + ")", house.above(1, what), 0);
        }
        aboveIs(house, 1, 1, 2);
        aboveIs(new CrystalHouse(), 0, 0, 0);
    }

    /** A house that is filled with all that it can hold, and still answers at the 512th call. */
    private static void allCalls() {
        DUE.sentence("An object is used for at most 512 calls after it has been made; what later calls answer is free.");
        CrystalHouse house = new CrystalHouse();
        int calls = 0;
        for (int i = 0; i < 40; i++) {
            DUE.is("operation " + i, house.operation(3198, i), i);
            DUE.is("cell " + i, house.cell(100 + i, 100, 100, 0, 0, 0), i);
            DUE.is("phase " + i, house.phase(99 - i, i, i * i), i);
            calls += 3;
        }
        DUE.is("group 0", house.group(), 0);
        calls++;
        for (int i = 0; i < 40; i++) {
            house.choose(i);
            DUE.is("group " + (i + 1), house.group(), i + 1);
            calls += 2;
        }
        for (int i = 0; i < 20; i++) {
            DUE.is("model " + i, house.model(0, i), i);
            calls++;
        }
        for (int i = 0; calls < 508; i++) {
            DUE.is("atom " + i / 20, house.atom(i % 20, 1 + i % 20, i / 20), i / 20 + 1);
            calls++;
        }
        DUE.is("call 509", house.lines(19, 1), 5);
        DUE.is("call 510", house.about(40, 4), 2);
        DUE.is("call 511", house.reduced(39, 2), 139);
        DUE.is("call 512", house.placed(19, 0, 1), 20);
    }
}

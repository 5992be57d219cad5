import java.util.ArrayList;
import java.util.HashSet;
import java.util.List;
import java.util.Set;

/** Each sentence about groups and waves under them (Terms 2 and 3, promises 11 to 18) at its boundaries. */
public final class GroupBoundariesTest {
    private static final int NONE = CrystalHouse.NONE;
    private static final int SAME = 16484;
    private static final int OPPOSITE = 3198;
    private static final String[] CUBE = {"z,x,y", "-y,x,z", "-x,-y,-z"};
    private static final String[] FACES = {"z,x,y", "-y,x,z", "-x,-y,-z", "x+1/2,y+1/2,z", "x,y+1/2,z+1/2"};
    private static final String[][] CLASSES = {
        {}, {"-x,-y,-z"}, {"-x,y,-z"}, {"x,-y,z"}, {"-x,y,-z", "-x,-y,-z"},
        {"-x,-y,z", "x,-y,-z"}, {"-x,-y,z", "x,-y,z"}, {"-x,-y,z", "x,-y,-z", "-x,-y,-z"},
        {"-y,x,z"}, {"y,-x,-z"}, {"-y,x,z", "-x,-y,-z"}, {"-y,x,z", "x,-y,-z"}, {"-y,x,z", "x,-y,z"},
        {"y,-x,-z", "x,-y,-z"}, {"-y,x,z", "x,-y,-z", "-x,-y,-z"},
        {"-y,x-y,z"}, {"-y,x-y,z", "-x,-y,-z"}, {"-y,x-y,z", "y,x,-z"}, {"-y,x-y,z", "-y,-x,z"},
        {"-y,x-y,z", "y,x,-z", "-x,-y,-z"},
        {"x-y,x,z"}, {"-y,x-y,z", "x,y,-z"}, {"x-y,x,z", "-x,-y,-z"}, {"x-y,x,z", "y,x,-z"}, {"x-y,x,z", "y,x,z"},
        {"-y,x-y,z", "x,y,-z", "y,x,-z"}, {"x-y,x,z", "y,x,-z", "-x,-y,-z"},
        {"z,x,y", "-x,-y,z"}, {"z,x,y", "-x,-y,z", "-x,-y,-z"}, {"z,x,y", "-y,x,z"}, {"z,x,y", "y,-x,-z"}, CUBE
    };
    private static final Due DUE = new Due();

    public static void main(String[] args) {
        groupOfNone();
        groupOfMany();
        productsThatAreNone();
        atMost192();
        numberedInOrder();
        sixtyGroups();
        equalOnes();
        differentMatrices();
        centrings();
        letters();
        classes();
        restOfRows();
        alike();
        halvesOf8();
        halvesOf16();
        halvesOfOdd();
        orbitsLowestFirst();
        keepersAndSites();
        wavesWithin();
        takenWaves();
        turns();
        absences();
        stars();
        fixedOnes();
        noneAreChosenThen();
        groupRefused();
        aboutAll();
        aboutNone();
        ofAll();
        ofNone();
        sortMayBeNone();
        productNone();
        halfIsAGroup();
        halfNone();
        within();
        withinNone();
        orbit();
        orbitNone();
        wave();
        waveNone();
        DUE.close("groups hold at their boundaries");
    }

    // ---- Terms 2 ----

    private static void groupOfNone() {
        DUE.sentence("all PRODUCTS of any number of them (of none: the one that leaves all PLACES);");
        CrystalHouse house = new CrystalHouse();
        DUE.is("group() of none", house.group(), 0);
        DUE.is("how many", house.about(0, 0), 1);
        DUE.is("its matrix", house.of(0, 0, 0), SAME);
        DUE.is("its shift", house.of(0, 0, 1), 0);
        Due.group(house, "z+1/2,x,y");
        DUE.is("how many of z+1/2,x,y", house.about(1, 0), 6);
        Due.group(house, "-y,x,z+1/4", "-x,-y,z+1/2");
        DUE.is("how many of a power more", house.about(2, 0), 4);
        Due.group(house, "x+5/24,y,z");
        DUE.is("how many of x+5/24", house.about(3, 0), 24);
        DUE.is("that of 8 and 3 is the same", Due.group(house, "x+1/3,y,z", "x+1/8,y,z"), 3);
    }

    private static void groupOfMany() {
        DUE.sentence("Of chosen OPERATIONS: all PRODUCTS of any number of them");
        CrystalHouse house = new CrystalHouse();
        for (int i = 0; i < 40; i++) {
            Due.read(house, i < 35 ? "x,y,z" : FACES[i - 35]);
            house.choose(i);
        }
        DUE.is("group() of 40", house.group(), 0);
        DUE.is("how many of 40", house.about(0, 0), 192);
        CrystalHouse other = new CrystalHouse();
        for (int i = 0; i < 40; i++) {
            other.choose(other.operation(SAME, i % 24));
        }
        DUE.is("group() of 24 shifts", other.group(), 0);
        DUE.is("how many of 24 shifts", other.about(0, 0), 24);
        // Six of them each double the group.
        CrystalHouse halves = Due.houseOf("x+1/2,y,z", "x,y+1/2,z", "x,y,z+1/2", "-x,y,z", "x,-y,z", "x,y,-z");
        DUE.is("how many of six that double", halves.about(0, 0), 64);
    }

    private static void noGroup(String... texts) {
        CrystalHouse house = new CrystalHouse();
        DUE.is("group() of " + String.join(" ", texts), Due.group(house, texts), NONE);
        DUE.is("there is none", house.about(0, 0), NONE);
        DUE.is("the next one is the first", house.group(), 0);
    }

    private static void productsThatAreNone() {
        DUE.sentence("none if one of the PRODUCTS is no OPERATION,");
        noGroup("x+y,y,z");
        noGroup("x,y,x+z");
        noGroup("x-y,y,z");
        // Each leaves all when it is done twice, but their products grow on and on.
        noGroup("-x+y,y,z", "x,-y,z");
        noGroup("-x,-x+y,-z", "x,-y,-z", "z,x,y");
        // Done six times it leaves all, but a power of it has a 2.
        noGroup("-x-y-z,-y-z,y");
        noGroup("x,y,z", "x+y,y,z");
        noGroup("-x,-y,-z", "x+1/2,y,z", "x,y,z+y");
        // Quarter turns about one axis fit with a cube, with a sixth of a turn about it they don't.
        noGroup("-y,x,z", "x-y,x,z");
    }

    private static void size(int due, String... texts) {
        CrystalHouse house = new CrystalHouse();
        int group = Due.group(house, texts);
        DUE.is("group() of " + String.join(" ", texts), group, due == NONE ? NONE : 0);
        DUE.is("how many of " + String.join(" ", texts), house.about(0, 0), due);
    }

    private static void atMost192() {
        DUE.sentence("or there are more than 192.");
        size(192, FACES);
        size(192, "x+1/24,y,z", "x,y+1/8,z");
        size(192, "x+1/12,y,z", "x,y+1/4,z", "x,y,z+1/4");
        size(192, "x+1/24,y,z", "x,y+1/4,z", "-x,-y,-z");
        size(192, "z,x,y", "-x,-y,z", "y,x,z", "-x,-y,-z", "x+1/2,y,z+1/2", "x,y+1/2,z+1/2");
        // 216 is the next that there could be.
        size(NONE, "x+1/6,y,z", "x,y+1/6,z", "x,y,z+1/6");
        size(NONE, "x+1/6,y,z", "x,y+1/6,z", "-x,y,z", "-y,x-y,z");
        size(NONE, "x+1/24,y,z", "x,y+1/12,z");
        size(NONE, "x+1/24,y,z", "x,y+1/24,z", "x,y,z+1/24");
        size(NONE, "z,x,y", "-y,x,z", "-x,-y,-z", "x+1/2,y,z");
        size(NONE, "z,x,y", "-y,x,z", "-x,-y,-z", "x+1/4,y+1/4,z+1/4");
        size(144, "x+1/24,y,z", "x,y+1/6,z");
    }

    private static void numberedInOrder() {
        DUE.sentence("Its OPERATIONS are numbered in their ORDER.");
        CrystalHouse house = Due.houseOf("x,y,z+1/3", "x+1/2,y,z", "-x,-y,-z");
        int[] shifts = {0, 8, 16, 6912, 6920, 6928};
        for (int k = 0; k < 12; k++) {
            DUE.is("the matrix of " + k, house.of(0, k, 0), k < 6 ? OPPOSITE : SAME);
            DUE.is("the shift of " + k, house.of(0, k, 1), shifts[k % 6]);
        }
    }

    /** Sixty groups: of x, y, z moved by one 24th each and turned about. */
    private static CrystalHouse full() {
        CrystalHouse house = new CrystalHouse();
        for (int i = 0; i < 20; i++) {
            house.operation(OPPOSITE, i);
        }
        for (int i = 0; i < 4; i++) {
            Due.read(house, new String[] {"x,y,-z", "x,-y,z", "-x,y,z", "z,x,y"}[i]);
        }
        for (int i = 0; i < 60; i++) {
            house.choose(i % 20);
            if (i >= 20) {
                house.choose(i < 40 ? 21 : 22);
            }
            DUE.is("group number " + i, house.group(), i);
        }
        return house;
    }

    private static void sixtyGroups() {
        DUE.sentence("GROUPS are numbered from 0 on as they are first made, 60 at most;");
        CrystalHouse house = full();
        house.choose(20);
        DUE.is("a new one beyond 60", house.group(), NONE);
        DUE.is("the one of none, a new one too", house.group(), NONE);
        DUE.is("the last", house.about(59, 0), 4);
        DUE.is("behind the last", house.about(60, 0), NONE);
        for (int i = 0; i < 60; i += 7) {
            house.choose(i % 20);
            if (i >= 20) {
                house.choose(i < 40 ? 21 : 22);
            }
            DUE.is("an old one, number " + i, house.group(), i);
        }
    }

    private static void equalOnes() {
        DUE.sentence("equal ones are one.");
        CrystalHouse house = new CrystalHouse();
        DUE.is("the first", Due.group(house, "-x,-y,z", "-x,y,-z"), 0);
        DUE.is("of other operations of it", Due.group(house, "x,-y,-z", "-x,-y,z"), 0);
        DUE.is("of all operations of it", Due.group(house, "x,y,z", "x,-y,-z", "-x,-y,z", "-x,y,-z"), 0);
        DUE.is("one that is moved", Due.group(house, "-x,-y,z", "-x,y,-z+1/2"), 1);
        DUE.is("a smaller one", Due.group(house, "-x,-y,z"), 2);
        DUE.is("a half that there is", house.half(0, 0), 2);
        DUE.is("a half that is new", house.half(0, 1), 3);
        DUE.is("the same by group()", Due.group(house, "-x,y,-z"), 3);
        DUE.is("one as great with other shifts", Due.group(house, "-x,-y,z+1/2"), 4);
    }

    private static void differentMatrices() {
        DUE.sentence("Its MATRICES are the different ones.");
        DUE.is("of shifts alone", Due.houseOf("x+1/24,y,z", "x,y+1/8,z").about(0, 1), 1);
        DUE.is("of 192", Due.houseOf(FACES).about(0, 1), 48);
        DUE.is("of a screw", Due.houseOf("-y,x,z+1/24").about(0, 1), 4);
        DUE.is("of one", Due.houseOf().about(0, 1), 1);
    }

    private static void centrings() {
        DUE.sentence("CENTRINGS: OPERATIONS with the MATRIX of the one that leaves all.");
        DUE.is("of none", Due.houseOf().about(0, 2), 1);
        DUE.is("of a point", Due.houseOf("-x,-y,-z").about(0, 2), 1);
        DUE.is("of shifts alone", Due.houseOf("x+1/24,y,z", "x,y+1/8,z").about(0, 2), 192);
        DUE.is("of 192", Due.houseOf(FACES).about(0, 2), 4);
        // A screw of a 24th makes its centrings by itself, and the shift of 23 23 23 is the last.
        DUE.is("of a screw", Due.houseOf("-y,x,z+1/24").about(0, 2), 6);
        DUE.is("of the last shift", Due.houseOf("x-1/24,y-1/24,z-1/24").about(0, 2), 24);
        DUE.is("of slants beside it", Due.houseOf("x,y,-z", "x,y+1/2,z", "-x,y,z").about(0, 2), 2);
    }

    private static void letter(int due, String... texts) {
        DUE.is("the letter of " + String.join(" ", texts), Due.houseOf(texts).about(0, 3), due);
    }

    private static void letters() {
        DUE.sentence("Its LETTER: 0 P: one CENTRING; by the SHIFTS of the others: 1 A 0 12 12; 2 B 12 0 12; 3 C 12 12 0;"
            + " 4 I 12 12 12; 5 F all of A, B, C; 6 obverse 8 16 16, 16 8 8; 7 reverse 8 16 8, 16 8 16; 8 others.");
        letter(0);
        letter(0, "-x+1/2,-y+1/2,-z");
        letter(1, "x,y+1/2,z+1/2");
        letter(2, "x+1/2,y,z+1/2");
        letter(3, "x+1/2,y+1/2,z");
        letter(3, "x+1/2,y+1/2,z", "-x,-y,-z");
        letter(4, "x+1/2,y+1/2,z+1/2");
        letter(5, "x+1/2,y+1/2,z", "x,y+1/2,z+1/2");
        letter(5, FACES);
        letter(6, "x+1/3,y+2/3,z+2/3");
        letter(6, "x+2/3,y+1/3,z+1/3", "-y,x-y,z");
        letter(7, "x+1/3,y+2/3,z+1/3");
        letter(7, "x+2/3,y+1/3,z+2/3");
        letter(8, "x+1/2,y,z");
        letter(8, "x,y+1/2,z");
        letter(8, "x,y,z+1/2");
        letter(8, "x+1/3,y+1/3,z+1/3");
        letter(8, "x+1/3,y+1/3,z+2/3");
        letter(8, "x,y,z+1/3");
        letter(8, "x,y,z+1/4");
        letter(8, "x+1/4,y+1/4,z+1/4");
        letter(8, "x+1/4,y+1/4,z");
        letter(8, "x+1/2,y,z", "x,y+1/2,z");
        letter(8, "x+1/2,y,z", "x,y+1/2,z+1/2");
        letter(8, "x,y+1/2,z", "x+1/2,y,z+1/2");
        letter(8, "x,y,z+1/2", "x+1/2,y+1/2,z");
        letter(8, "x+1/2,y,z", "x,y+1/2,z", "x,y,z+1/2");
        letter(8, "x+1/2,y+1/2,z", "x,y+1/2,z+1/2", "x+1/4,y+1/4,z+1/4");
        letter(8, "x+1/3,y+2/3,z+2/3", "x,y,z+1/2");
        letter(8, "x+1/3,y+2/3,z+2/3", "x,y,z+1/3");
        letter(8, "x+1/24,y,z", "x,y+1/8,z");
    }

    private static void classes() {
        DUE.sentence("Its CLASS, by how many MATRICES of the SORTS 2, 3, 4, 6, -1, -2, -3, -4, -6 there are: 1: none. 2: 0 0 0 0 1. 3: 1.");
        for (int i = 0; i < 32; i++) {
            DUE.is("the class of " + String.join(" ", CLASSES[i]), Due.houseOf(CLASSES[i]).about(0, 4), i + 1);
            // A matrix counts once, however many shifts it comes with.
            List<String> more = new ArrayList<>(List.of(CLASSES[i]));
            more.add("x+1/2,y+1/2,z+1/2");
            DUE.is("the class with centrings", Due.houseOf(more.toArray(new String[0])).about(0, 4), i + 1);
        }
        DUE.is("the other way about an axis", Due.houseOf("y,z,x").about(0, 4), 16);
        DUE.is("a screw", Due.houseOf("x-y,x,z+1/6").about(0, 4), 21);
        DUE.is("three axes of another slant", Due.houseOf("-y,x-y,z", "-y,-x,-z").about(0, 4), 18);
    }

    private static void restOfRows() {
        DUE.sentence("(The rest of each row is 0.)");
        int[] sorts = {2, 3, 4, 6, -1, -2, -3, -4, -6};
        String[] rows = Oracle.CLASSES.split("\\.");
        for (int i = 0; i < 32; i++) {
            CrystalHouse house = Due.houseOf(CLASSES[i]);
            String[] row = (i == 0 ? "" : rows[i].split(":")[1].trim()).split(" ");
            int[] found = new int[sorts.length];
            for (int k = house.about(0, 0) - 1; k >= 0; k--) {
                int sort = house.of(0, k, 2);
                for (int s = 0; s < sorts.length; s++) {
                    found[s] += sort == sorts[s] ? 1 : 0;
                }
            }
            for (int s = 0; s < sorts.length; s++) {
                DUE.is("sort " + sorts[s] + " of class " + (i + 1), found[s], s < row.length && i > 0 ? Integer.parseInt(row[s]) : 0);
            }
            DUE.is("class " + (i + 1), Due.houseOf(CLASSES[i]).about(0, 4), i + 1);
        }
    }

    private static void alikeOnes(int due, String... texts) {
        DUE.is("alike ones of " + String.join(" ", texts), Due.houseOf(texts).about(0, 5), due);
    }

    private static void alike() {
        DUE.sentence("Two OPERATIONS a, b of it are ALIKE if there is a c in it with c a = b c.");
        alikeOnes(1);
        alikeOnes(2, "-x,-y,-z");
        alikeOnes(3, "z,x,y");
        alikeOnes(24, "x+1/24,y,z");
        alikeOnes(192, "x+1/24,y,z", "x,y+1/8,z");
        alikeOnes(5, "-y,x,z", "x,-y,-z");
        alikeOnes(3, "-y,x-y,z", "y,x,-z");
        alikeOnes(10, CUBE);
        // By operations, not by matrices: -x moves a shift to its opposite, so 6 and 18 are alike, 0 and 12 are alone.
        alikeOnes(5, "-x,-y,-z", "x+1/4,y,z");
        alikeOnes(4, "-x,-y,-z", "x+1/2,y,z");
        alikeOnes(4, "-y,x,z+1/4");
        alikeOnes(15, "-x,-y,-z", "x+1/24,y,z");
        // Of one house, one after another.
        CrystalHouse house = new CrystalHouse();
        int[] due = new int[32];
        for (int i = 0; i < 32; i++) {
            due[i] = Due.houseOf(CLASSES[i]).about(0, 5);
        }
        for (int i = 31; i >= 0; i -= 3) {
            int group = Due.group(house, CLASSES[i]);
            DUE.is("alike ones of class " + (i + 1) + " in one house", house.about(group, 5), due[i]);
            DUE.is("alike ones of class " + (i + 1) + ", again", house.about(group, 5), due[i]);
        }
    }

    /** All sets of half as many, closed under products, as rows of a and b: a for one that is in it; in their order. */
    private static List<String> halvesByTable(int[][] table) {
        List<String> found = new ArrayList<>();
        int count = table.length;
        for (int set = 0; set < 1 << count; set++) {
            if (Integer.bitCount(set) == count / 2 && isClosed(table, set)) {
                StringBuilder row = new StringBuilder();
                for (int i = 0; i < count; i++) {
                    row.append((set >> i & 1) == 1 ? 'a' : 'b');
                }
                found.add(row.toString());
            }
        }
        found.sort(null);
        return found;
    }

    private static boolean isClosed(int[][] table, int set) {
        for (int i = 0; i < table.length; i++) {
            for (int j = 0; j < table.length; j++) {
                if ((set >> i & set >> j & 1) == 1 && (set >> table[i][j] & 1) == 0) {
                    return false;
                }
            }
        }
        return true;
    }

    private static void halvesAre(String... texts) {
        CrystalHouse house = Due.houseOf(texts);
        int count = house.about(0, 0);
        int[][] table = new int[count][count];
        for (int i = 0; i < count; i++) {
            for (int j = 0; j < count; j++) {
                table[i][j] = house.product(0, i, j);
            }
        }
        List<String> due = halvesByTable(table);
        CrystalHouse other = Due.houseOf(texts);
        DUE.is("how many halves of " + String.join(" ", texts), other.about(0, 6), due.size());
        for (int k = 0; k < due.size(); k++) {
            // A new house for each, so that none has more than 512 calls.
            CrystalHouse fresh = Due.houseOf(texts);
            int half = fresh.half(0, k);
            StringBuilder row = new StringBuilder();
            int at = 0;
            for (int i = 0; i < count; i++) {
                boolean in = fresh.of(half, at, 0) == fresh.of(0, i, 0) && fresh.of(half, at, 1) == fresh.of(0, i, 1);
                row.append(in ? 'a' : 'b');
                at += in ? 1 : 0;
            }
            DUE.is("half " + k + " of " + String.join(" ", texts), row.toString(), due.get(k));
            DUE.is("how many of half " + k, fresh.about(half, 0), count / 2);
        }
        DUE.is("behind the last half", other.half(0, due.size()), NONE);
    }

    private static void halvesOf8() {
        DUE.sentence("The HALVES of a GROUP are the GROUPS of half as many OPERATIONS within it,");
        halvesAre("-x,-y,-z");
        halvesAre("-x,y,-z", "-x,-y,-z");
        halvesAre("-y,x,z");
        halvesAre("-y,x,z+1/8");
        halvesAre("-x,-y,z", "x,-y,-z", "-x,-y,-z");
        halvesAre("-y,x,z", "x,-y,-z");
        halvesAre("-y,x,z", "-x,-y,-z");
        halvesAre("-y,x-y,z", "-x,-y,-z");
        halvesAre("-y,x-y,z", "y,x,-z");
        halvesAre("x+1/2,y,z", "x,y+1/2,z", "x,y,z+1/2");
        halvesAre("x+1/4,y,z", "x,y+1/2,z");
        // Of one house, one after another.
        CrystalHouse house = new CrystalHouse();
        int[] due = {0, 1, 1, 1, 3, 3, 3, 7, 1, 1, 3, 3, 3, 3, 7, 0, 1, 1, 1, 3, 1, 1, 3, 3, 3, 3, 7, 0, 1, 1, 1, 3};
        for (int i = 31; i >= 0; i -= 3) {
            int group = Due.group(house, CLASSES[i]);
            DUE.is("halves of class " + (i + 1) + " in one house", house.about(group, 6), due[i]);
            DUE.is("halves of class " + (i + 1) + ", again", house.about(group, 6), due[i]);
        }
    }

    private static void halvesOf16() {
        DUE.sentence("in an order: of two, the one that has the first OPERATION which only one of them has comes first.");
        halvesAre("-y,x,z", "x,-y,-z", "-x,-y,-z");
        halvesAre("-x,-y,z", "x,-y,-z", "-x,-y,-z", "x+1/2,y+1/2,z+1/2");
        halvesAre("-x,-y+1/2,z", "x+1/2,-y,-z", "-x,-y,-z+1/2", "x,y,z+1/2");
        halvesAre("-x,y+1/2,-z+1/2", "-x,-y,-z", "x+1/4,y,z");
        halvesAre("-y,x-y,z", "y,x,-z", "-x,-y,-z");
        halvesAre("z,x,y", "-x,-y,z");
    }

    private static void halvesOfOdd() {
        DUE.sentence("The HALVES of a GROUP are the GROUPS of half as many OPERATIONS within it, in an order:");
        DUE.is("of one", Due.houseOf().about(0, 6), 0);
        DUE.is("of three", Due.houseOf("z,x,y").about(0, 6), 0);
        DUE.is("of nine", Due.houseOf("z,x,y", "x+1/3,y+1/3,z+1/3").about(0, 6), 0);
        DUE.is("of twelve that have none", Due.houseOf("z,x,y", "-x,-y,z").about(0, 6), 0);
        DUE.is("of 24 shifts", Due.houseOf("x+1/24,y,z").about(0, 6), 1);
        DUE.is("of 64", Due.houseOf("x+1/2,y,z", "x,y+1/2,z", "x,y,z+1/2", "-x,y,z", "x,-y,z", "x,y,-z").about(0, 6), 63);
        DUE.is("of 192", Due.houseOf(FACES).about(0, 6), 3);
        DUE.is("of 192 shifts", Due.houseOf("x+1/12,y,z", "x,y+1/4,z", "x,y,z+1/4").about(0, 6), 7);
    }

    private static void orbitsLowestFirst() {
        DUE.sentence("The ORBIT of a PLACE: all that the OPERATIONS take it to, lowest first (by their first numbers, then the second"
            + " ones, then the third).");
        CrystalHouse house = Due.houseOf("z,x,y", "-x,-y,z");
        int place = Due.place(2, 1, 23);
        List<Integer> due = new ArrayList<>();
        for (int[] three : new int[][] {{2, 1, 23}, {23, 2, 1}, {1, 23, 2}}) {
            for (int signs : new int[] {0, 3, 5, 6}) {
                int x = (signs & 1) == 0 ? three[0] : 24 - three[0];
                int y = (signs & 2) == 0 ? three[1] : 24 - three[1];
                int z = (signs & 4) == 0 ? three[2] : 24 - three[2];
                due.add(Due.place(x, y, z));
            }
        }
        Set<Integer> different = new HashSet<>(due);
        due = new ArrayList<>(different);
        due.sort(null);
        DUE.is("how many", house.orbit(0, place, -1), due.size());
        for (int k = 0; k < due.size(); k++) {
            DUE.is("place " + k, house.orbit(0, place, k), due.get(k));
        }
        CrystalHouse shifts = Due.houseOf("x+1/24,y,z");
        for (int k = 0; k < 24; k++) {
            DUE.is("place " + k + " along x", shifts.orbit(0, Due.place(17, 3, 5), k), Due.place(k, 3, 5));
        }
        DUE.is("all of 192", Due.houseOf(FACES).orbit(0, Due.place(1, 2, 3), -1), 192);
        DUE.is("of one", Due.houseOf().orbit(0, 13823, 0), 13823);
    }

    private static void keepersAndSites() {
        DUE.sentence("Its KEEPERS: the OPERATIONS that leave it; its SITE is the CLASS of their MATRICES.");
        CrystalHouse faces = Due.houseOf(FACES);
        int[][] places = {{0, 0, 0}, {12, 12, 12}, {6, 6, 6}, {18, 6, 18}, {0, 6, 6}, {3, 0, 0}, {1, 1, 1}, {0, 1, 2}, {1, 1, 3}, {1, 2, 3}};
        int[] keepers = {48, 48, 24, 24, 8, 8, 6, 2, 2, 1};
        int[] sites = {32, 32, 31, 31, 8, 13, 19, 4, 4, 1};
        for (int i = 0; i < places.length; i++) {
            int place = Due.place(places[i][0], places[i][1], places[i][2]);
            DUE.is("keepers of " + place, faces.orbit(0, place, -2), keepers[i]);
            DUE.is("the site of " + place, faces.orbit(0, place, -3), sites[i]);
            DUE.is("how many of " + place, faces.orbit(0, place, -1), 192 / keepers[i]);
        }
        CrystalHouse moved = Due.houseOf("-x+23/24,-y+1/24,-z");
        DUE.is("no place halfway", moved.orbit(0, Due.place(11, 0, 0), -2), 1);
        CrystalHouse even = Due.houseOf("-x+11/12,-y+1/12,-z");
        DUE.is("a place halfway, modulo 24", even.orbit(0, Due.place(23, 13, 12), -2), 2);
        DUE.is("its site", even.orbit(0, Due.place(23, 13, 12), -3), 2);
        CrystalHouse screw = Due.houseOf("-x,-y,z+1/2");
        DUE.is("a screw leaves no place", screw.orbit(0, 0, -2), 1);
        DUE.is("its site", screw.orbit(0, 0, -3), 1);
    }

    // ---- Terms 3 ----

    private static void wavesWithin() {
        DUE.sentence("WAVES of a h, three numbers -60 .. 60, under a GROUP.");
        CrystalHouse house = Due.houseOf("-y,x-y,z");
        for (int end : new int[] {-60, 60}) {
            DUE.is("the star of an end", house.wave(0, end, end, end, 1), 6);
            DUE.is("the star of a first end", house.wave(0, end, 0, 1, 1), 6);
            DUE.is("the star of a second end", house.wave(0, 0, end, 1, 1), 6);
            DUE.is("the star of a third end", house.wave(0, 0, 0, end, 1), 2);
            int beyond = end + end / 60;
            DUE.is("beyond a first end", house.wave(0, beyond, 0, 1, 1), NONE);
            DUE.is("beyond a second end", house.wave(0, 0, beyond, 1, 1), NONE);
            DUE.is("beyond a third end", house.wave(0, 0, 0, beyond, 1), NONE);
        }
    }

    private static void takenWaves() {
        DUE.sentence("An OPERATION takes h to h times MATRIX (h as a row);");
        // As a row, 1 0 0 goes to the first row of the matrix, -1 1 0; as a column it would go to -1 0 0, its opposite.
        CrystalHouse house = Due.houseOf("-x+y,y,-z");
        DUE.is("1 0 0 isn't fixed", house.wave(0, 1, 0, 0, 2), NONE);
        DUE.is("the star of 1 0 0", house.wave(0, 1, 0, 0, 1), 4);
        DUE.is("0 1 0 stays", house.wave(0, 0, 1, 0, 1), 2);
        DUE.is("0 1 0 isn't fixed", house.wave(0, 0, 1, 0, 2), NONE);
        DUE.is("-2 1 0 is fixed", house.wave(0, -2, 1, 0, 2), 0);
        DUE.is("1 -2 0 isn't", house.wave(0, 1, -2, 0, 2), NONE);
    }

    private static void turns() {
        DUE.sentence("its TURN is h times SHIFT, modulo 24.");
        CrystalHouse house = Due.houseOf("-x+23/24,-y+11/24,-z+1/24");
        int[][] waves = {{0, 0, 0}, {1, 0, 0}, {-1, 0, 0}, {2, 0, 0}, {60, 0, 0}, {-60, 0, 0}, {60, 60, 60}, {-60, -60, -60}, {0, -1, 0},
            {1, 1, 1}, {-60, 59, -1}};
        for (int[] h : waves) {
            int due = Math.floorMod(23 * h[0] + 11 * h[1] + h[2], 24);
            DUE.is("the turn of " + h[0] + " " + h[1] + " " + h[2], house.wave(0, h[0], h[1], h[2], 2), due);
        }
    }

    private static void absent(int due, CrystalHouse house, int h, int k, int l) {
        DUE.is("the absence of " + h + " " + k + " " + l, house.wave(0, h, k, l, 0), due);
    }

    private static void absences() {
        DUE.sentence("h is ABSENT if one that leaves h has a TURN that isn't 0.");
        CrystalHouse centred = Due.houseOf("x+1/2,y+1/2,z");
        absent(0, centred, 0, 0, 0);
        absent(1, centred, 1, 0, 0);
        absent(1, centred, 60, -59, 5);
        absent(0, centred, 60, -60, 5);
        absent(0, centred, -1, 1, 0);
        CrystalHouse slow = Due.houseOf("x+1/24,y,z");
        absent(1, slow, 1, 0, 0);
        absent(1, slow, 23, 0, 0);
        absent(0, slow, 24, 0, 0);
        absent(0, slow, -48, 7, 7);
        CrystalHouse screw = Due.houseOf("-x,y+1/2,-z");
        absent(1, screw, 0, 1, 0);
        absent(0, screw, 0, 2, 0);
        // Here the screw doesn't leave h, though its turn isn't 0.
        absent(0, screw, 1, 1, 0);
        absent(1, screw, 0, -59, 0);
        // It is the glide, not the first operation, whose turn isn't 0.
        CrystalHouse glide = Due.houseOf("x,-y,z+1/2", "x+1/3,y,z");
        absent(1, glide, 3, 0, 1);
        absent(0, glide, 3, 0, 2);
        absent(1, glide, 2, 1, 2);
        absent(0, glide, 3, 1, 1);
    }

    private static void stars() {
        DUE.sentence("Its STAR: all that the OPERATIONS take it to, and their opposites (all numbers negated).");
        CrystalHouse one = Due.houseOf();
        DUE.is("the star of 0", one.wave(0, 0, 0, 0, 1), 1);
        DUE.is("the star of 1 2 3", one.wave(0, 1, 2, 3, 1), 2);
        DUE.is("the star of 1 2 3 with -1", Due.houseOf("-x,-y,-z").wave(0, 1, 2, 3, 1), 2);
        DUE.is("with a mirror", Due.houseOf("x,-y,z").wave(0, 1, 2, 3, 1), 4);
        CrystalHouse cube = Due.houseOf(CUBE);
        int[][] waves = {{0, 0, 0}, {60, 0, 0}, {60, 60, 60}, {-60, 60, 0}, {60, 59, 60}, {60, 59, 0}, {58, 59, 60}, {1, 2, 3}};
        int[] due = {1, 6, 8, 12, 24, 24, 48, 48};
        for (int i = 0; i < waves.length; i++) {
            DUE.is("the star of " + waves[i][0] + " " + waves[i][1] + " " + waves[i][2] + " of a cube",
                cube.wave(0, waves[i][0], waves[i][1], waves[i][2], 1), due[i]);
        }
        DUE.is("half a cube makes as many with opposites", Due.houseOf("z,x,y", "-y,x,z").wave(0, 1, 2, 3, 1), 48);
        // What h is taken to may be beyond 60: 60 60 60 goes to 180 -60 -60.
        DUE.is("the star of 60 60 60, slanted", Due.houseOf("x,x-y,x-z").wave(0, 60, 60, 60, 1), 4);
        DUE.is("the star of -60 -60 60, slanted", Due.houseOf("x,x-y,x-z").wave(0, -60, -60, 60, 1), 4);
        DUE.is("the star of 60 -60 -60, slanted", Due.houseOf("x+y+z,-y,-z").wave(0, 60, -60, -60, 1), 4);
        DUE.is("the star of 60 60 0 of a hexagon", Due.houseOf("x-y,x,z").wave(0, 60, 60, 0, 1), 6);
    }

    private static void fixedOnes() {
        DUE.sentence("It is FIXED, by the first OPERATION that takes it to its opposite: that one's TURN.");
        CrystalHouse house = Due.houseOf("-x+1/4,-y,-z", "x+1/2,y,z");
        // Both -x+1/4 and -x+3/4 do it; the first has a shift of 6.
        DUE.is("1 0 0", house.wave(0, 1, 0, 0, 2), 6);
        DUE.is("-1 0 0", house.wave(0, -1, 0, 0, 2), 18);
        DUE.is("2 0 0", house.wave(0, 2, 0, 0, 2), 12);
        // 0 is its own opposite.
        DUE.is("0 0 0", house.wave(0, 0, 0, 0, 2), 0);
        DUE.is("0 0 0 of one", Due.houseOf().wave(0, 0, 0, 0, 2), 0);
        DUE.is("1 0 0 of one", Due.houseOf().wave(0, 1, 0, 0, 2), NONE);
        CrystalHouse axis = Due.houseOf("-x+1/4,y+1/2,-z+1/3");
        DUE.is("1 0 1 along an axis", axis.wave(0, 1, 0, 1, 2), 14);
        DUE.is("1 1 1 along an axis", axis.wave(0, 1, 1, 1, 2), NONE);
        DUE.is("0 1 0 along an axis", axis.wave(0, 0, 1, 0, 2), NONE);
        // The first in ORDER is -x,-y+1/12,z, ahead of that with +z's opposite turn.
        CrystalHouse more = Due.houseOf("-x,-y+1/12,z", "x,-y+1/12,-z");
        DUE.is("0 1 0, of two ways", more.wave(0, 0, 1, 0, 2), 2);
        CrystalHouse last = Due.houseOf("-x+1/2,-y,z", "x,y,-z+1/4");
        DUE.is("0 0 1", last.wave(0, 0, 0, 1, 2), 6);
        DUE.is("1 0 0", last.wave(0, 1, 0, 0, 2), 12);
    }

    // ---- promises 11 to 18 ----

    private static void noneAreChosenThen() {
        DUE.sentence("The GROUP of the chosen OPERATIONS (none are chosen then, also behind NONE): its number.");
        CrystalHouse house = new CrystalHouse();
        Due.read(house, "-x,-y,-z");
        Due.read(house, "x+y,y,z");
        house.choose(0);
        DUE.is("group()", house.group(), 0);
        DUE.is("group() of none", house.about(house.group(), 0), 1);
        house.choose(0);
        house.choose(1);
        DUE.is("group() that is none", house.group(), NONE);
        DUE.is("group() behind NONE", house.group(), 1);
        house.choose(0);
        DUE.is("an operation can be chosen again", house.group(), 0);
        CrystalHouse full = full();
        full.choose(0);
        full.choose(20);
        DUE.is("group() beyond 60", full.group(), NONE);
        full.choose(1);
        DUE.is("none are chosen behind that", full.group(), 1);
    }

    private static void groupRefused() {
        DUE.sentence("NONE: there is none, or it is a new one and there are 60.");
        noGroup("x+y,y,z");
        noGroup("x+1/24,y,z", "x,y+1/24,z");
        CrystalHouse full = full();
        full.choose(23);
        DUE.is("a new one", full.group(), NONE);
        full.choose(0);
        DUE.is("an old one", full.group(), 0);
        full.choose(19);
        full.choose(22);
        DUE.is("the last one", full.group(), 59);
        DUE.is("about(60, 0)", full.about(60, 0), NONE);
    }

    private static void aboutAll() {
        DUE.sentence("how many OPERATIONS (what 0), MATRICES (1), CENTRINGS (2), its LETTER (3), its CLASS (4), how many sets of"
            + " ALIKE ones its OPERATIONS are in (5), how many HALVES (6).");
        CrystalHouse house = Due.houseOf(FACES);
        int[] due = {192, 48, 4, 5, 32, 0, 3};
        for (int what = 0; what < 7; what++) {
            if (what != 5) {
                DUE.is("about(0, " + what + ")", house.about(0, what), due[what]);
            }
        }
        CrystalHouse c2m = Due.houseOf("-x,y,-z", "-x,-y,-z", "x+1/2,y+1/2,z");
        int[] of2m = {8, 4, 2, 3, 5, 8, 7};
        for (int what = 0; what < 7; what++) {
            DUE.is("about(0, " + what + ") of C2/m", c2m.about(0, what), of2m[what]);
        }
    }

    private static void aboutNone() {
        DUE.sentence("how many HALVES (6). NONE when there is none such, or for another what.");
        CrystalHouse house = Due.houseOf("-x,-y,-z");
        for (int what : Due.beyond(0, 6)) {
            DUE.is("about(0, " + what + ")", house.about(0, what), NONE);
        }
        for (int group : Due.noneOf(1)) {
            for (int what = 0; what < 7; what++) {
                DUE.is("about(" + group + ", " + what + ")", house.about(group, what), NONE);
            }
        }
    }

    private static void ofAll() {
        DUE.sentence("OPERATION k of a GROUP: its MATRIX as told with operation() (what 0), its SHIFT so (1), the SORT of its MATRIX (2),"
            + " how often it is done until it is the one that leaves all (3).");
        CrystalHouse house = new CrystalHouse();
        int nine = Integer.parseInt("101201112", 3);
        house.choose(house.operation(nine, 8));
        house.group();
        DUE.is("the matrix", house.of(0, 1, 0), nine);
        DUE.is("the shift", house.of(0, 1, 1), 8);
        DUE.is("the sort", house.of(0, 1, 2), 3);
        DUE.is("how often", house.of(0, 1, 3), 3);
        DUE.is("how often the one that leaves all", house.of(0, 2, 3), 1);
        DUE.is("how often a shift of a 24th", Due.houseOf("x+1/24,y,z").of(0, 1, 3), 24);
        DUE.is("how often a shift of 23", Due.houseOf("x+1/24,y,z").of(0, 23, 3), 24);
        DUE.is("how often a shift of 12", Due.houseOf("x+1/24,y,z").of(0, 12, 3), 2);
        DUE.is("how often a shift of 9", Due.houseOf("x+1/24,y,z").of(0, 9, 3), 8);
        // A quarter screw of a 24th takes four turns to come back, and 24 to leave all.
        CrystalHouse screw = Due.houseOf("-y,x,z+1/24");
        int most = 0;
        for (int k = 0; k < 24; k++) {
            most = Math.max(most, screw.of(0, k, 3));
        }
        DUE.is("the most often of a screw", most, 24);
        // -z and a shift along it: twice done it leaves all.
        DUE.is("how often a mirror off 0", Due.houseOf("x,y,-z+1/24").of(0, 0, 3), 2);
        DUE.is("how often a glide", Due.houseOf("x+1/24,y,-z").about(0, 0), 24);
    }

    private static void ofNone() {
        DUE.sentence("until it is the one that leaves all (3). NONE when there is none such.");
        CrystalHouse house = Due.houseOf("-y,x-y,z");
        for (int what = 0; what < 4; what++) {
            for (int k : Due.noneOf(3)) {
                DUE.is("of(0, " + k + ", " + what + ")", house.of(0, k, what), NONE);
            }
            for (int group : Due.noneOf(1)) {
                DUE.is("of(" + group + ", 0, " + what + ")", house.of(group, 0, what), NONE);
            }
        }
        for (int what : Due.beyond(0, 3)) {
            DUE.is("of(0, 0, " + what + ")", house.of(0, 0, what), NONE);
        }
    }

    private static void sortMayBeNone() {
        DUE.sentence("(A SORT may be -1, too.)");
        CrystalHouse house = Due.houseOf("-x,-y,-z");
        DUE.is("the sort of -x,-y,-z", house.of(0, 0, 2), -1);
        DUE.is("its matrix", house.of(0, 0, 0), OPPOSITE);
        DUE.is("how often", house.of(0, 0, 3), 2);
    }

    private static void productNone() {
        DUE.sentence("The number of PRODUCT i j of OPERATIONS i and j of a GROUP; NONE when there are none such.");
        CrystalHouse house = Due.houseOf("x+1/24,y,z");
        DUE.is("product(0, 23, 1)", house.product(0, 23, 1), 0);
        DUE.is("product(0, 23, 23)", house.product(0, 23, 23), 22);
        DUE.is("product(0, 0, 0)", house.product(0, 0, 0), 0);
        for (int i : Due.noneOf(24)) {
            DUE.is("product(0, " + i + ", 0)", house.product(0, i, 0), NONE);
            DUE.is("product(0, 0, " + i + ")", house.product(0, 0, i), NONE);
            DUE.is("product(0, " + i + ", " + i + ")", house.product(0, i, i), NONE);
        }
        for (int group : Due.noneOf(1)) {
            DUE.is("product(" + group + ", 0, 0)", house.product(group, 0, 0), NONE);
        }
        CrystalHouse faces = Due.houseOf(FACES);
        for (int i = 0; i < 192; i += 19) {
            DUE.is("the last one is x+1/2,y+1/2,z", faces.of(0, 191, 1), 7200);
            int once = faces.product(0, i, 191);
            DUE.is("twice the last one", faces.product(0, once, 191), i);
        }
    }

    private static void halfIsAGroup() {
        DUE.sentence("The k-th HALF of a GROUP, as a GROUP: its number.");
        CrystalHouse house = Due.houseOf("-x,y,-z", "-x,-y,-z");
        DUE.is("half(0, 2)", house.half(0, 2), 1);
        DUE.is("half(0, 0)", house.half(0, 0), 2);
        DUE.is("half(0, 2), again", house.half(0, 2), 1);
        DUE.is("its class", house.about(1, 4), 4);
        DUE.is("half(1, 0)", house.half(1, 0), 3);
        DUE.is("half(2, 0), equal to it", house.half(2, 0), 3);
        DUE.is("what is chosen stays chosen", house.choose(0) && house.half(0, 1) == 4 && house.group() == 4, true);
        DUE.is("a new group", Due.group(house, "x+1/2,y,z"), 5);
    }

    private static void halfNone() {
        DUE.sentence("NONE when there is none such, or it is a new one and there are 60.");
        CrystalHouse house = Due.houseOf("-x,y,-z", "-x,-y,-z");
        for (int k : Due.noneOf(3)) {
            DUE.is("half(0, " + k + ")", house.half(0, k), NONE);
        }
        for (int group : Due.noneOf(1)) {
            DUE.is("half(" + group + ", 0)", house.half(group, 0), NONE);
        }
        DUE.is("none was made", house.about(1, 0), NONE);
        house.group();
        DUE.is("half of one", house.half(1, 0), NONE);
        CrystalHouse full = full();
        // Number 20 is of -x,-y,-z and x,-y,z: its halves are those of -x,-y,-z, which is number 0, of -x,y,-z and of x,-y,z.
        DUE.is("a half that there is", full.half(20, 0), 0);
        DUE.is("a half that is new", full.half(20, 1), NONE);
        DUE.is("another that is new", full.half(20, 2), NONE);
        DUE.is("about(60, 0)", full.about(60, 0), NONE);
    }

    private static void within() {
        DUE.sentence("Whether all OPERATIONS of a GROUP are in another one.");
        CrystalHouse house = Due.houseOf();
        Due.group(house, "-x,-y,-z");
        Due.group(house, "-x,-y,-z", "x+1/2,y,z");
        Due.group(house, "-x+1/2,-y,-z");
        Due.group(house, "-x,y,-z");
        Due.group(house, FACES);
        boolean[][] due = {
            {true, true, true, true, true, true}, {false, true, true, false, false, true}, {false, false, true, false, false, false},
            {false, false, true, true, false, false}, {false, false, false, false, true, true},
            {false, false, false, false, false, true}
        };
        for (int i = 0; i < 6; i++) {
            for (int j = 0; j < 6; j++) {
                DUE.is("within(" + i + ", " + j + ")", house.within(i, j), due[i][j]);
            }
        }
    }

    private static void withinNone() {
        DUE.sentence("Whether all OPERATIONS of a GROUP are in another one. False when there are no such ones.");
        CrystalHouse house = Due.houseOf();
        for (int group : Due.noneOf(1)) {
            DUE.is("within(" + group + ", 0)", house.within(group, 0), false);
            DUE.is("within(0, " + group + ")", house.within(0, group), false);
            DUE.is("within(" + group + ", " + group + ")", house.within(group, group), false);
        }
        DUE.is("within(0, 0)", house.within(0, 0), true);
    }

    private static void orbit() {
        DUE.sentence("Of the ORBIT of a PLACE (as a SHIFT is told): how many (what -1), KEEPERS (-2), SITE (-3), PLACE k of it (k).");
        CrystalHouse house = Due.houseOf("x,-y,z");
        int place = Due.place(23, 1, 2);
        int[] due = {1, 1, 2, place, Due.place(23, 23, 2), NONE};
        for (int what = -3; what < 3; what++) {
            DUE.is("orbit(0, " + place + ", " + what + ")", house.orbit(0, place, what), due[what + 3]);
        }
        int[] at = {4, 2, 1, 13823 - 23 * 24, NONE};
        for (int what = -3; what < 2; what++) {
            DUE.is("orbit(0, " + (13823 - 23 * 24) + ", " + what + ")", house.orbit(0, 13823 - 23 * 24, what), at[what + 3]);
        }
    }

    private static void orbitNone() {
        DUE.sentence("NONE when there is no such GROUP or PLACE, or none such.");
        CrystalHouse house = Due.houseOf("-x,-y,-z");
        for (int place : Due.beyond(0, 13823)) {
            for (int what = -3; what < 1; what++) {
                DUE.is("orbit(0, " + place + ", " + what + ")", house.orbit(0, place, what), NONE);
            }
        }
        for (int group : Due.noneOf(1)) {
            for (int what = -3; what < 1; what++) {
                DUE.is("orbit(" + group + ", 0, " + what + ")", house.orbit(group, 0, what), NONE);
            }
        }
        for (int what : Due.beyond(-3, 1)) {
            DUE.is("orbit(0, 1, " + what + ")", house.orbit(0, 1, what), NONE);
        }
        DUE.is("orbit(0, 13823, 1)", house.orbit(0, 13823, 1), 13823);
        DUE.is("orbit(0, 0, 1)", house.orbit(0, 0, 1), NONE);
    }

    private static void wave() {
        DUE.sentence("1 if it is ABSENT, else 0 (what 0), how many are in its STAR (1), the TURN by which it is FIXED, NONE when it isn't (2).");
        CrystalHouse house = Due.houseOf("-x+1/6,y+1/2,-z");
        int[][] due = {{0, 1, 0}, {1, 2, NONE}, {0, 2, 4}, {0, 4, NONE}, {0, 2, 0}};
        int[][] waves = {{0, 0, 0}, {0, 1, 0}, {1, 0, 0}, {1, 1, 0}, {-60, 0, 60}};
        for (int i = 0; i < waves.length; i++) {
            for (int what = 0; what < 3; what++) {
                DUE.is("wave(0, " + waves[i][0] + ", " + waves[i][1] + ", " + waves[i][2] + ", " + what + ")",
                    house.wave(0, waves[i][0], waves[i][1], waves[i][2], what), due[i][what]);
            }
        }
    }

    private static void waveNone() {
        DUE.sentence("NONE when there is no such GROUP, a number is not -60 .. 60, or for another what.");
        CrystalHouse house = Due.houseOf("-x,-y,-z");
        for (int h : Due.beyond(-60, 60)) {
            for (int what = 0; what < 3; what++) {
                DUE.is("wave(0, " + h + ", 0, 0, " + what + ")", house.wave(0, h, 0, 0, what), NONE);
                DUE.is("wave(0, 0, " + h + ", 0, " + what + ")", house.wave(0, 0, h, 0, what), NONE);
                DUE.is("wave(0, 0, 0, " + h + ", " + what + ")", house.wave(0, 0, 0, h, what), NONE);
            }
        }
        for (int end : new int[] {-60, 60}) {
            DUE.is("wave(0, " + end + ", 0, 0, 1)", house.wave(0, end, 0, 0, 1), 2);
            DUE.is("wave(0, 0, " + end + ", 0, 1)", house.wave(0, 0, end, 0, 1), 2);
            DUE.is("wave(0, 0, 0, " + end + ", 1)", house.wave(0, 0, 0, end, 1), 2);
        }
        for (int what : Due.beyond(0, 2)) {
            DUE.is("wave(0, 1, 1, 1, " + what + ")", house.wave(0, 1, 1, 1, what), NONE);
        }
        for (int group : Due.noneOf(1)) {
            DUE.is("wave(" + group + ", 1, 1, 1, 1)", house.wave(group, 1, 1, 1, 1), NONE);
        }
    }
}

/** Promises 11 to 18: groups, their halves, orbits and waves. */
public final class GroupsTest {
    private static final int NONE = CrystalHouse.NONE;
    private static final Due DUE = new Due();

    private static final String[][] CLASSES = {
        {"x,y,z"}, {"-x,-y,-z"}, {"-x,y,-z"}, {"x,-y,z"}, {"-x,y,-z", "-x,-y,-z"},
        {"-x,-y,z", "x,-y,-z"}, {"-x,-y,z", "x,-y,z"}, {"-x,-y,z", "x,-y,-z", "-x,-y,-z"},
        {"-y,x,z"}, {"y,-x,-z"}, {"-y,x,z", "-x,-y,-z"}, {"-y,x,z", "x,-y,-z"}, {"-y,x,z", "x,-y,z"},
        {"y,-x,-z", "x,-y,-z"}, {"-y,x,z", "x,-y,-z", "-x,-y,-z"},
        {"-y,x-y,z"}, {"-y,x-y,z", "-x,-y,-z"}, {"-y,x-y,z", "y,x,-z"}, {"-y,x-y,z", "-y,-x,z"},
        {"-y,x-y,z", "y,x,-z", "-x,-y,-z"},
        {"x-y,x,z"}, {"-y,x-y,z", "x,y,-z"}, {"x-y,x,z", "-x,-y,-z"}, {"x-y,x,z", "y,x,-z"}, {"x-y,x,z", "y,x,z"},
        {"-y,x-y,z", "x,y,-z", "y,x,-z"}, {"x-y,x,z", "y,x,-z", "-x,-y,-z"},
        {"z,x,y", "-x,-y,z"}, {"z,x,y", "-x,-y,z", "-x,-y,-z"}, {"z,x,y", "-y,x,z"}, {"z,x,y", "y,-x,-z"},
        {"z,x,y", "-y,x,z", "-x,-y,-z"}
    };
    private static final int[] ORDERS = {1, 2, 2, 2, 4, 4, 4, 8, 4, 4, 8, 8, 8, 8, 16, 3, 6, 6, 6, 12, 6, 6, 12, 12, 12, 12,
        24, 12, 24, 24, 24, 48};
    // How many sets of ALIKE ones the 32 point groups have (their irreducible representations are as many).
    private static final int[] ALIKE = {1, 2, 2, 2, 4, 4, 4, 8, 4, 4, 8, 5, 5, 5, 10, 3, 6, 3, 3, 6, 6, 6, 12, 6, 6, 6, 12,
        4, 8, 5, 5, 10};
    private static final int[] HALVES = {0, 1, 1, 1, 3, 3, 3, 7, 1, 1, 3, 3, 3, 3, 7, 0, 1, 1, 1, 3, 1, 1, 3, 3, 3, 3, 7,
        0, 1, 1, 1, 3};

    public static void main(String[] args) {
        group();
        groupThatIsNone();
        groupsUntilFull();
        aboutClasses();
        aboutLetters();
        aboutEdges();
        of();
        product();
        half();
        halvesOfMany();
        within();
        orbit();
        wave();
        DUE.close("promises 11 to 18 hold");
    }

    private static void group() {
        DUE.promise(11);
        CrystalHouse house = new CrystalHouse();
        DUE.is("group() of none", house.group(), 0);
        DUE.is("group of one that leaves all", Due.group(house, "x,y,z"), 0);
        DUE.is("group()", Due.group(house, "-x,-y,-z"), 1);
        DUE.is("none are chosen then", house.group(), 0);
        DUE.is("group of an equal one", Due.group(house, "-x,-y,-z", "x,y,z"), 1);
        DUE.is("group of another shift", Due.group(house, "-x+1/2,-y,-z"), 2);
        int fm3m = Due.group(house, "z,x,y", "-y,x,z", "-x,-y,-z", "x+1/2,y+1/2,z", "x,y+1/2,z+1/2");
        DUE.is("group of 192", fm3m, 3);
        DUE.is("about 192", house.about(fm3m, 0), 192);
        String last = "";
        for (int k = 0; k < 192; k++) {
            int nine = house.of(fm3m, k, 0);
            int shift = house.of(fm3m, k, 1);
            String now = String.format("%05d %05d", nine, shift);
            DUE.is("operations are in their order", now.compareTo(last) > 0, true);
            last = now;
        }
    }

    private static void groupThatIsNone() {
        DUE.promise(11);
        CrystalHouse house = new CrystalHouse();
        DUE.is("group of a slant", Due.group(house, "x+y,y,z"), NONE);
        DUE.is("none are chosen behind NONE", house.group(), 0);
        DUE.is("group of 24 times 24", Due.group(house, "x+1/24,y,z", "x,y+1/24,z"), NONE);
        DUE.is("group of 384", Due.group(house, "x+1/24,y,z", "x,y+1/8,z", "-x,-y,-z"), NONE);
        DUE.is("group of 192", Due.group(house, "x+1/24,y,z", "x,y+1/8,z"), 1);
        DUE.is("about(1, 0)", house.about(1, 0), 192);
        // Each is of order 2, but one after another they make ever greater matrices.
        DUE.is("group of mirrors", Due.group(house, "-x+y,y,z", "x,-y,z"), NONE);
        DUE.is("group()", house.group(), 0);
        // Done six times it leaves all, but a power of it has a 2.
        DUE.is("group with a 2", Due.group(house, "-x-y-z,-y-z,y"), NONE);
        DUE.is("group of a slanted half turn", Due.group(house, "x+y+z,-y,-z"), 2);
    }

    private static void groupsUntilFull() {
        DUE.promise(11);
        CrystalHouse house = new CrystalHouse();
        for (int i = 0; i < 24; i++) {
            house.operation(3198, Due.place(i, 0, 0));
        }
        Due.read(house, "x,y,-z");
        Due.read(house, "x,y,-z+1/2");
        for (int i = 0; i < 26; i++) {
            house.choose(i);
            DUE.is("group() of one", house.group(), i);
        }
        for (int i = 0; i < 48; i++) {
            house.choose(i % 24);
            house.choose(24 + i / 24);
            DUE.is("group() of two", house.group(), 26 + i < 60 ? 26 + i : NONE);
        }
        house.choose(23);
        DUE.is("an old one", house.group(), 23);
        DUE.is("group() of none, a new one", house.group(), NONE);
        DUE.is("about(59, 0)", house.about(59, 0), 4);
        DUE.is("about(60, 0)", house.about(60, 0), NONE);
    }

    private static void aboutClasses() {
        DUE.promise(12);
        for (int i = 0; i < 32; i++) {
            CrystalHouse house = new CrystalHouse();
            int group = Due.group(house, CLASSES[i]);
            DUE.is("about operations of class " + (i + 1), house.about(group, 0), ORDERS[i]);
            DUE.is("about matrices of class " + (i + 1), house.about(group, 1), ORDERS[i]);
            DUE.is("about centrings of class " + (i + 1), house.about(group, 2), 1);
            DUE.is("about the letter of class " + (i + 1), house.about(group, 3), 0);
            DUE.is("about class " + (i + 1), house.about(group, 4), i + 1);
            DUE.is("about alike ones of class " + (i + 1), house.about(group, 5), ALIKE[i]);
            DUE.is("about halves of class " + (i + 1), house.about(group, 6), HALVES[i]);
            DUE.is("about, again", house.about(group, 5), ALIKE[i]);
            DUE.is("the site of 0 in class " + (i + 1), house.orbit(group, 0, -3), i + 1);
        }
    }

    private static void aboutLetters() {
        DUE.promise(12);
        String[][] centrings = {
            {"x,y,z"}, {"x,y+1/2,z+1/2"}, {"x+1/2,y,z+1/2"}, {"x+1/2,y+1/2,z"}, {"x+1/2,y+1/2,z+1/2"},
            {"x+1/2,y+1/2,z", "x,y+1/2,z+1/2"}, {"x+1/3,y+2/3,z+2/3"}, {"x+1/3,y+2/3,z+1/3"}
        };
        int[] counts = {1, 2, 2, 2, 2, 4, 3, 3};
        for (int i = 0; i < centrings.length; i++) {
            CrystalHouse house = new CrystalHouse();
            int alone = Due.group(house, centrings[i]);
            DUE.is("about centrings of letter " + i, house.about(alone, 2), counts[i]);
            DUE.is("about letter " + i, house.about(alone, 3), i);
            DUE.is("about matrices of letter " + i, house.about(alone, 1), 1);
            DUE.is("about the class of letter " + i, house.about(alone, 4), 1);
        }
        String[][] others = {{"x+1/2,y,z"}, {"x,y,z+1/4"}, {"x+1/3,y,z"}, {"x+1/2,y,z", "x,y+1/2,z"},
            {"x,y+1/2,z", "x,y,z+1/2"}, {"x+1/2,y,z", "x,y,z+1/2"}, {"x+1/2,y,z", "x,y+1/2,z+1/2"},
            {"x+1/2,y,z", "x,y+1/2,z", "x,y,z+1/2"}, {"x+1/3,y+1/3,z+1/3"}, {"x+1/2,y+1/2,z", "x,y,z+1/2"}};
        for (String[] other : others) {
            CrystalHouse house = new CrystalHouse();
            DUE.is("about the letter of " + other[0], house.about(Due.group(house, other), 3), 8);
        }
        CrystalHouse house = new CrystalHouse();
        int fm3m = Due.group(house, "z,x,y", "-y,x,z", "-x,-y,-z", "x+1/2,y+1/2,z", "x,y+1/2,z+1/2");
        DUE.is("matrices of Fm-3m", house.about(fm3m, 1), 48);
        DUE.is("centrings of Fm-3m", house.about(fm3m, 2), 4);
        DUE.is("letter of Fm-3m", house.about(fm3m, 3), 5);
        DUE.is("class of Fm-3m", house.about(fm3m, 4), 32);
        DUE.is("halves of Fm-3m", house.about(fm3m, 6), 3);
        int ia3d = Due.group(house, "-x+1/2,-y,z+1/2", "-x,y+1/2,-z+1/2", "z,x,y", "y+3/4,x+1/4,-z+1/4", "-x,-y,-z",
            "x+1/2,y+1/2,z+1/2");
        DUE.is("operations of Ia-3d", house.about(ia3d, 0), 96);
        DUE.is("letter of Ia-3d", house.about(ia3d, 3), 4);
        DUE.is("class of Ia-3d", house.about(ia3d, 4), 32);
        int r3c = Due.group(house, "-y,x-y,z", "-y,-x,z+1/2", "x+2/3,y+1/3,z+1/3");
        DUE.is("letter of R3c", house.about(r3c, 3), 6);
        DUE.is("class of R3c", house.about(r3c, 4), 19);
    }

    private static void aboutEdges() {
        DUE.promise(12);
        CrystalHouse house = new CrystalHouse();
        house.group();
        DUE.is("about(0, 7)", house.about(0, 7), NONE);
        DUE.is("about(0, -1)", house.about(0, -1), NONE);
        DUE.is("about(1, 0)", house.about(1, 0), NONE);
        DUE.is("about(-1, 0)", house.about(-1, 0), NONE);
        DUE.is("halves of one", house.about(0, 6), 0);
        // c a = b c by operations, not by matrices: along a fourfold screw the centrings of z stay apart.
        int screw = Due.group(house, "-y,x,z+1/4");
        DUE.is("operations of a screw", house.about(screw, 0), 4);
        DUE.is("alike ones of a screw", house.about(screw, 5), 4);
        int glide = Due.group(house, "-x,-y,-z", "x+1/2,y,z");
        DUE.is("alike ones of glides", house.about(glide, 5), 4);
        int quarter = Due.group(house, "-x,-y,-z", "x+1/4,y,z");
        DUE.is("alike ones of quarters", house.about(quarter, 5), 5);
    }

    private static void of() {
        DUE.promise(13);
        CrystalHouse house = new CrystalHouse();
        int p41 = Due.group(house, "-y,x,z+1/4");
        DUE.is("of(0, 0, 0)", house.of(p41, 0, 0), 3200);
        DUE.is("of(0, 0, 1)", house.of(p41, 0, 1), 12);
        DUE.is("of(0, 0, 2)", house.of(p41, 0, 2), 2);
        DUE.is("of(0, 0, 3)", house.of(p41, 0, 3), 2);
        DUE.is("of(0, 3, 0)", house.of(p41, 3, 0), 16484);
        DUE.is("of(0, 3, 1)", house.of(p41, 3, 1), 0);
        DUE.is("of(0, 3, 2)", house.of(p41, 3, 2), 1);
        DUE.is("of(0, 3, 3)", house.of(p41, 3, 3), 1);
        DUE.is("of(0, 1, 0)", house.of(p41, 1, 0), Integer.parseInt("101211112", 3));
        DUE.is("of(0, 1, 1)", house.of(p41, 1, 1), 6);
        DUE.is("of(0, 1, 2)", house.of(p41, 1, 2), 4);
        DUE.is("of(0, 1, 3)", house.of(p41, 1, 3), 4);
        DUE.is("of(0, 2, 1)", house.of(p41, 2, 1), 18);
        DUE.is("of(0, 4, 0)", house.of(p41, 4, 0), NONE);
        DUE.is("of(0, -1, 0)", house.of(p41, -1, 0), NONE);
        DUE.is("of(1, 0, 0)", house.of(1, 0, 0), NONE);
        DUE.is("of(-1, 0, 0)", house.of(-1, 0, 0), NONE);
        DUE.is("of(0, 0, 4)", house.of(p41, 0, 4), NONE);
        DUE.is("of(0, 0, -1)", house.of(p41, 0, -1), NONE);
        int bar = Due.group(house, "-x,-y,-z");
        DUE.is("the sort of -1", house.of(bar, 0, 2), -1);
        int[] sorts = {-2, -3, -4, -6, 3, 6};
        String[] texts = {"x,y,-z", "y,-x+y,-z", "y,-x,-z", "-x+y,-x,-z", "-y,x-y,z", "x-y,x,z"};
        int[] times = {2, 6, 4, 6, 3, 6};
        for (int i = 0; i < sorts.length; i++) {
            int group = Due.group(house, texts[i]);
            int nineOf = matrixOf(texts[i]);
            for (int k = 0; k < house.about(group, 0); k++) {
                if (house.of(group, k, 0) == nineOf) {
                    DUE.is("the sort of " + texts[i], house.of(group, k, 2), sorts[i]);
                    DUE.is("the times of " + texts[i], house.of(group, k, 3), times[i]);
                }
            }
        }
        int slow = Due.group(house, "x+1/24,y,z");
        DUE.is("24 times", house.of(slow, 1, 3), 24);
        DUE.is("12 times", house.of(slow, 2, 3), 12);
        int glide = Due.group(house, "x+1/24,y,-z");
        DUE.is("24 times with a mirror", house.about(glide, 0), 24);
    }

    private static int matrixOf(String text) {
        StringBuilder digits = new StringBuilder();
        for (String expression : text.split(",")) {
            for (char letter : "xyz".toCharArray()) {
                int at = expression.indexOf(letter);
                digits.append(at < 0 ? '1' : at > 0 && expression.charAt(at - 1) == '-' ? '0' : '2');
            }
        }
        return Integer.parseInt(digits.toString(), 3);
    }

    private static void product() {
        DUE.promise(14);
        CrystalHouse house = new CrystalHouse();
        // In order: -x,-y,-z; -x,y+1/2,-z+1/2; x,-y+1/2,z+1/2; x,y,z.
        int p21c = Due.group(house, "-x,y+1/2,-z+1/2", "-x,-y,-z");
        int[][] table = {{3, 2, 1, 0}, {2, 3, 0, 1}, {1, 0, 3, 2}, {0, 1, 2, 3}};
        for (int i = 0; i < 4; i++) {
            for (int j = 0; j < 4; j++) {
                DUE.is("product(0, " + i + ", " + j + ")", house.product(p21c, i, j), table[i][j]);
            }
        }
        DUE.is("product(0, 4, 0)", house.product(p21c, 4, 0), NONE);
        DUE.is("product(0, 0, 4)", house.product(p21c, 0, 4), NONE);
        DUE.is("product(0, -1, 0)", house.product(p21c, -1, 0), NONE);
        DUE.is("product(0, 0, -1)", house.product(p21c, 0, -1), NONE);
        DUE.is("product(1, 0, 0)", house.product(1, 0, 0), NONE);
        // The second of a product is done first: -y,x,z of x,-y,-z is y,x,-z, the other way it is -y,-x,-z.
        productIs("-y,x,z", "x,-y,-z", "y,x,-z");
        productIs("x,-y,-z", "-y,x,z", "-y,-x,-z");
        productIs("-x+1/2,-y,-z", "x+1/4,y,z", "-x+1/4,-y,-z");
        productIs("x+1/4,y,z", "-x+1/2,-y,-z", "-x+3/4,-y,-z");
    }

    private static void productIs(String p, String q, String due) {
        CrystalHouse house = Due.houseOf(p, q);
        int product = house.product(0, Due.find(p, p, q), Due.find(q, p, q));
        DUE.is("the product of " + p + " and " + q, product, Due.find(due, p, q));
    }

    private static void half() {
        DUE.promise(15);
        CrystalHouse house = new CrystalHouse();
        int p2m = Due.group(house, "-x,y,-z", "-x,-y,-z");
        // In order: -x,-y,-z; -x,y,-z; x,-y,z; x,y,z: the half with -1 is first, then the one with 2, then that with m.
        DUE.is("half(0, 0)", house.half(p2m, 0), 1);
        DUE.is("half(0, 1)", house.half(p2m, 1), 2);
        DUE.is("half(0, 2)", house.half(p2m, 2), 3);
        DUE.is("the class of the first", house.about(1, 4), 2);
        DUE.is("the class of the second", house.about(2, 4), 3);
        DUE.is("the class of the third", house.about(3, 4), 4);
        DUE.is("half(0, 3)", house.half(p2m, 3), NONE);
        DUE.is("half(0, -1)", house.half(p2m, -1), NONE);
        DUE.is("half(9, 0)", house.half(9, 0), NONE);
        DUE.is("half(-1, 0)", house.half(-1, 0), NONE);
        DUE.is("half(0, 0) again", house.half(p2m, 0), 1);
        DUE.is("half of a half", house.half(1, 0), 4);
        DUE.is("it leaves all", house.about(4, 0), 1);
        DUE.is("half of one", house.half(4, 0), NONE);
        int three = Due.group(house, "z,x,y");
        DUE.is("half of three", house.half(three, 0), NONE);
        DUE.is("half by group()", Due.group(house, "-x,y,-z"), 2);
    }

    private static void halvesOfMany() {
        DUE.promise(15);
        CrystalHouse house = new CrystalHouse();
        int many = Due.group(house, "-x,-y,z", "x,-y,-z", "-x,-y,-z", "x+1/2,y,z", "x,y+1/2,z", "x,y,z+1/2");
        DUE.is("about 64", house.about(many, 0), 64);
        DUE.is("halves of 64", house.about(many, 6), 63);
        DUE.is("alike ones of 64", house.about(many, 5), 64);
        String last = "";
        for (int k = 0; k < 59; k++) {
            int half = house.half(many, k);
            DUE.is("half(0, " + k + ")", half, k + 1);
            DUE.is("about a half", house.about(half, 0), 32);
            DUE.is("within", house.within(half, many), true);
        }
        for (int k = 0; k < 10; k++) {
            CrystalHouse other = new CrystalHouse();
            Due.group(other, "-x,-y,z", "x,-y,-z", "-x,-y,-z", "x+1/2,y,z", "x,y+1/2,z", "x,y,z+1/2");
            StringBuilder held = new StringBuilder();
            int half = other.half(0, k);
            for (int i = 0, at = 0; i < 64; i++) {
                boolean in = at < 32 && other.of(half, at, 0) == other.of(0, i, 0) && other.of(half, at, 1) == other.of(0, i, 1);
                held.append(in ? 'a' : 'b');
                at += in ? 1 : 0;
            }
            DUE.is("halves are in their order", held.toString().compareTo(last) > 0, true);
            last = held.toString();
        }
        DUE.is("half(0, 59) beyond 60", house.half(many, 59), NONE);
        DUE.is("half(0, 62) beyond 60", house.half(many, 62), NONE);
        DUE.is("half(0, 63)", house.half(many, 63), NONE);
        DUE.is("half(0, 58) that there is", house.half(many, 58), 59);
        DUE.is("a new group beyond 60", Due.group(house, "x,y,-z+1/24"), NONE);
        DUE.is("an old group beyond 60", Due.group(house, "x+1/2,y,z", "x,y+1/2,z", "x,y,z+1/2", "-x,-y,z", "x,-y,-z",
            "-x,-y,-z"), 0);
    }

    private static void within() {
        DUE.promise(16);
        CrystalHouse house = new CrystalHouse();
        int one = house.group();
        int bar = Due.group(house, "-x,-y,-z");
        int moved = Due.group(house, "-x+1/2,-y,-z");
        int both = Due.group(house, "-x,-y,-z", "x+1/2,y,z");
        DUE.is("within(one, bar)", house.within(one, bar), true);
        DUE.is("within(bar, one)", house.within(bar, one), false);
        DUE.is("within(bar, bar)", house.within(bar, bar), true);
        DUE.is("within(bar, moved)", house.within(bar, moved), false);
        DUE.is("within(bar, both)", house.within(bar, both), true);
        DUE.is("within(moved, both)", house.within(moved, both), true);
        DUE.is("within(both, moved)", house.within(both, moved), false);
        DUE.is("within(0, 4)", house.within(0, 4), false);
        DUE.is("within(4, 0)", house.within(4, 0), false);
        DUE.is("within(-1, 0)", house.within(-1, 0), false);
        DUE.is("within(0, -1)", house.within(0, -1), false);
    }

    private static void orbit() {
        DUE.promise(17);
        CrystalHouse house = new CrystalHouse();
        int p21c = Due.group(house, "-x,y+1/2,-z+1/2", "-x,-y,-z");
        int place = Due.place(1, 2, 3);
        int[] places = {place, Due.place(1, 10, 15), Due.place(23, 14, 9), Due.place(23, 22, 21)};
        DUE.is("orbit, how many", house.orbit(p21c, place, -1), 4);
        DUE.is("orbit, keepers", house.orbit(p21c, place, -2), 1);
        DUE.is("orbit, site", house.orbit(p21c, place, -3), 1);
        for (int k = 0; k < 4; k++) {
            DUE.is("orbit, place " + k, house.orbit(p21c, place, k), places[k]);
        }
        DUE.is("orbit, place 4", house.orbit(p21c, place, 4), NONE);
        DUE.is("orbit, what -4", house.orbit(p21c, place, -4), NONE);
        DUE.is("orbit of 0", house.orbit(p21c, 0, -1), 2);
        DUE.is("keepers of 0", house.orbit(p21c, 0, -2), 2);
        DUE.is("site of 0", house.orbit(p21c, 0, -3), 2);
        DUE.is("orbit of 0, place 1", house.orbit(p21c, 0, 1), 300);
        DUE.is("orbit of 0, place 2", house.orbit(p21c, 0, 2), NONE);
        DUE.is("orbit of -1", house.orbit(p21c, -1, -1), NONE);
        DUE.is("orbit of 13824", house.orbit(p21c, 13824, -1), NONE);
        DUE.is("orbit of 13823", house.orbit(p21c, 13823, -1), 4);
        DUE.is("orbit of no group", house.orbit(1, 0, -1), NONE);
        DUE.is("orbit of group -1", house.orbit(-1, 0, -1), NONE);
        int fm3m = Due.group(house, "z,x,y", "-y,x,z", "-x,-y,-z", "x+1/2,y+1/2,z", "x,y+1/2,z+1/2");
        int[] spots = {0, Due.place(12, 12, 12), Due.place(6, 6, 6), Due.place(0, 6, 6), Due.place(3, 0, 0),
            Due.place(1, 1, 1), Due.place(0, 1, 2), Due.place(1, 1, 3), Due.place(1, 2, 3)};
        int[] counts = {4, 4, 8, 24, 24, 32, 96, 96, 192};
        int[] sites = {32, 32, 31, 8, 13, 19, 4, 4, 1};
        for (int i = 0; i < spots.length; i++) {
            DUE.is("Fm-3m, how many of " + spots[i], house.orbit(fm3m, spots[i], -1), counts[i]);
            DUE.is("Fm-3m, keepers of " + spots[i], house.orbit(fm3m, spots[i], -2), 192 / counts[i]);
            DUE.is("Fm-3m, site of " + spots[i], house.orbit(fm3m, spots[i], -3), sites[i]);
        }
        DUE.is("Fm-3m, the last place", house.orbit(fm3m, Due.place(1, 2, 3), 191), Due.place(23, 22, 21));
        DUE.is("Fm-3m, behind the last place", house.orbit(fm3m, Due.place(1, 2, 3), 192), NONE);
    }

    private static void wave() {
        DUE.promise(18);
        CrystalHouse house = new CrystalHouse();
        int p21c = Due.group(house, "-x,y+1/2,-z+1/2", "-x,-y,-z");
        DUE.is("0 k 0 odd", house.wave(p21c, 0, 3, 0, 0), 1);
        DUE.is("0 k 0 even", house.wave(p21c, 0, 4, 0, 0), 0);
        DUE.is("h 0 l odd", house.wave(p21c, 5, 0, -3, 0), 1);
        DUE.is("h 0 l even", house.wave(p21c, 5, 0, -2, 0), 0);
        DUE.is("h k l", house.wave(p21c, 1, 1, 1, 0), 0);
        DUE.is("star of h k l", house.wave(p21c, 1, 2, 3, 1), 4);
        DUE.is("star of 0 k 0", house.wave(p21c, 0, 2, 0, 1), 2);
        DUE.is("star of 0", house.wave(p21c, 0, 0, 0, 1), 1);
        DUE.is("0 is fixed", house.wave(p21c, 0, 0, 0, 2), 0);
        DUE.is("0 isn't absent", house.wave(p21c, 0, 0, 0, 0), 0);
        DUE.is("h k l is fixed by -1", house.wave(p21c, 1, 2, 3, 2), 0);
        int p21 = Due.group(house, "-x,y+1/2,-z");
        DUE.is("h k l isn't fixed", house.wave(p21, 1, 2, 3, 2), NONE);
        DUE.is("h 0 l is fixed", house.wave(p21, 1, 0, 3, 2), 0);
        DUE.is("star of h k l with opposites", house.wave(p21, 1, 2, 3, 1), 4);
        DUE.is("star of h 0 l", house.wave(p21, 1, 0, 3, 1), 2);
        int along = Due.group(house, "-x,-y+1/6,-z");
        DUE.is("the turn of 0 1 0", house.wave(along, 0, 1, 0, 2), 4);
        DUE.is("the turn of 0 -1 0", house.wave(along, 0, -1, 0, 2), 20);
        int moved = Due.group(house, "-x+1/4,-y,-z+5/24");
        DUE.is("the turn of a moved -1", house.wave(moved, 1, 0, 0, 2), 6);
        DUE.is("the turn of h -1 0 0", house.wave(moved, -1, 0, 0, 2), 18);
        DUE.is("the turn of h 1 1 1", house.wave(moved, 1, 1, 1, 2), 11);
        int p31 = Due.group(house, "-y,x-y,z+1/3");
        DUE.is("0 0 1 of 31", house.wave(p31, 0, 0, 1, 0), 1);
        DUE.is("0 0 3 of 31", house.wave(p31, 0, 0, 3, 0), 0);
        // As a row: 1 0 0 times the matrix is 0 -1 0, so the star is 1 0 0, 0 1 0, 1 -1 0's kin with opposites.
        DUE.is("star of 1 0 0 of 31", house.wave(p31, 1, 0, 0, 1), 6);
        DUE.is("star of 60 60 60", house.wave(p31, 60, 60, 60, 1), 6);
        int c = Due.group(house, "x+1/2,y+1/2,z");
        DUE.is("1 0 0 of C", house.wave(c, 1, 0, 0, 0), 1);
        DUE.is("1 1 0 of C", house.wave(c, 1, 1, 0, 0), 0);
        DUE.is("-60 59 0 of C", house.wave(c, -60, 59, 0, 0), 1);
        DUE.is("61 0 0", house.wave(c, 61, 0, 0, 0), NONE);
        DUE.is("0 -61 0", house.wave(c, 0, -61, 0, 1), NONE);
        DUE.is("0 0 61", house.wave(c, 0, 0, 61, 2), NONE);
        DUE.is("the least", house.wave(c, 0, 0, Integer.MIN_VALUE, 0), NONE);
        DUE.is("what 3", house.wave(c, 0, 0, 0, 3), NONE);
        DUE.is("what -1", house.wave(c, 0, 0, 0, -1), NONE);
        DUE.is("no group", house.wave(9, 0, 0, 0, 0), NONE);
        DUE.is("group -1", house.wave(-1, 0, 0, 0, 0), NONE);
    }
}

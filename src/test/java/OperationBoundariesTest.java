import java.util.Arrays;

/** Each sentence about operations and their texts (Terms 1, promises 1 to 10) at its boundaries. */
public final class OperationBoundariesTest {
    private static final int NONE = CrystalHouse.NONE;
    private static final int SAME = 16484;
    private static final Due DUE = new Due();

    public static void main(String[] args) {
        matricesOfDeterminants();
        placesModulo();
        productsModulo();
        orderOfOperations();
        sorts();
        fortyOperations();
        threeExpressions();
        signsOfTerms();
        digitsOfNumbers();
        partsOfFractions();
        blanks();
        blanksInNumbers();
        toldTexts();
        firstFault();
        bytesThatCannotStand();
        endOfText();
        fractionsThatDoNotDivide();
        fractionsAreWholeModulo();
        thirdDigits();
        matrixOfText();
        determinantOfText();
        newObject();
        bytesInTheirOrder();
        bytesThatWaitAreZero();
        endTakesTheFirst();
        endRefused();
        readEmpties();
        readRefused();
        faultBefore();
        faultOfAnotherWhat();
        digitsOfOperation();
        operationRefused();
        tell();
        tellNone();
        tellOf();
        tellOfNone();
        letterNone();
        chooseTwice();
        chooseRefused();
        DUE.close("operations hold at their boundaries");
    }

    private static int nine(int... numbers) {
        int nine = 0;
        for (int number : numbers) {
            nine = 3 * nine + number + 1;
        }
        return nine;
    }

    private static int determinant(int nine) {
        int[] m = new int[9];
        for (int i = 8, rest = nine; i >= 0; i--, rest /= 3) {
            m[i] = rest % 3 - 1;
        }
        return m[0] * m[4] * m[8] + m[1] * m[5] * m[6] + m[2] * m[3] * m[7]
            - m[2] * m[4] * m[6] - m[1] * m[3] * m[8] - m[0] * m[5] * m[7];
    }

    // ---- Terms 1 ----

    private static void matricesOfDeterminants() {
        DUE.sentence("An OPERATION has a MATRIX of three rows of three numbers, each -1, 0 or 1, with determinant 1 or -1,"
            + " and a SHIFT of three numbers 0 .. 23 (24ths of the edges).");
        for (int nine = 0; nine < 19683; nine++) {
            CrystalHouse house = new CrystalHouse();
            int due = Math.abs(determinant(nine)) == 1 ? 0 : NONE;
            DUE.is("operation(" + nine + ", 0)", house.operation(nine, 0), due);
        }
        for (int shift = 0; shift < 24; shift++) {
            int all = Due.place(shift, 23 - shift, shift / 2);
            CrystalHouse house = new CrystalHouse();
            house.choose(house.operation(nine(-1, 0, 0, 0, -1, 0, 0, 0, -1), all));
            DUE.is("the shift " + all, house.of(house.group(), 0, 1), all);
        }
    }

    /** Where a place goes by an operation that, done twice, leaves all. */
    private static int taken(String text, int place) {
        CrystalHouse house = Due.houseOf(text);
        int first = house.orbit(0, place, 0);
        int second = house.orbit(0, place, 1);
        return second == NONE || second == place ? first : second;
    }

    private static void placesModulo() {
        DUE.sentence("It takes a PLACE, three numbers 0 .. 23, to MATRIX times PLACE plus SHIFT, modulo 24.");
        DUE.is("-x of 0", taken("-x,-y,-z", 0), 0);
        DUE.is("-x of 1 0 23", taken("-x,-y,-z", Due.place(1, 0, 23)), Due.place(23, 0, 1));
        DUE.is("-x+23/24 of 23", taken("-x+23/24,y,z", Due.place(23, 5, 6)), Due.place(0, 5, 6));
        DUE.is("-x+23/24 of 0", taken("-x+23/24,y,z", Due.place(0, 5, 6)), Due.place(23, 5, 6));
        DUE.is("-x+1/24 of 2", taken("x,-y+1/24,z", Due.place(1, 2, 3)), Due.place(1, 23, 3));
        DUE.is("x+1/2 of 12", taken("x+1/2,y,z+1/2", Due.place(12, 0, 23)), Due.place(0, 0, 11));
        DUE.is("x+y+z of 23 23 23", taken("x+y+z,-y,-z", 13823), Due.place(21, 1, 1));
        DUE.is("-x-y-z of 23 23 23", taken("-x-y-z,y,z", 13823), Due.place(3, 23, 23));
        DUE.is("-x-y-z+23/24 of 23 23 22", taken("-x-y-z+23/24,y,z", 13822), Due.place(3, 23, 22));
        DUE.is("x-y of 0 23", taken("x,x-y,-z", Due.place(0, 23, 0)), Due.place(0, 1, 0));
    }

    private static void productIs(String p, String q, String due) {
        CrystalHouse house = Due.houseOf(p, q);
        int product = house.product(0, Due.find(p, p, q), Due.find(q, p, q));
        house.tellOf(0, product);
        DUE.is("the product of " + p + " and " + q, Due.out(house), due);
    }

    private static void productsModulo() {
        DUE.sentence("The PRODUCT p q does q first: MATRIX p times MATRIX q, p's MATRIX times q's SHIFT plus p's SHIFT modulo 24.");
        productIs("x+23/24,y,z", "x+23/24,y,z", "x+11/12,y,z");
        productIs("x+23/24,y,z", "x+1/24,y,z", "x,y,z");
        productIs("-x,-y,-z", "x+1/24,y,z", "-x+23/24,-y,-z");
        productIs("x+1/24,y,z", "-x,-y,-z", "-x+1/24,-y,-z");
        productIs("-y,x,z", "x,-y,-z", "y,x,-z");
        productIs("x,-y,-z", "-y,x,z", "-y,-x,-z");
        productIs("-y,x,z+3/4", "x,y,z+1/2", "-y,x,z+1/4");
        productIs("-y,x-y,z+2/3", "-y,x-y,z+2/3", "-x+y,-x,z+1/3");
        productIs("-y+3/4,x+1/4,z+1/4", "-y+3/4,x+1/4,z+1/4", "-x+1/2,-y,z+1/2");
    }

    private static void orderOfOperations() {
        DUE.sentence("OPERATIONS are in ORDER by their MATRICES, row by row, then by SHIFTS, the lower number first.");
        CrystalHouse house = Due.houseOf("x+1/2,y,z", "x,y,z+1/2", "-x,-y,z", "y,x,z");
        String[] due = {"-x,-y,z", "-x,-y,z+1/2", "-x,-y+1/2,z", "-x,-y+1/2,z+1/2", "-x+1/2,-y,z"};
        for (int k = 0; k < due.length; k++) {
            house.tellOf(0, k);
            DUE.is("operation " + k, Due.out(house), due[k]);
        }
        int count = house.about(0, 0);
        house.tellOf(0, count - 1);
        DUE.is("the last operation", Due.out(house), "x+1/2,y+1/2,z+1/2");
        for (int k = 1; k < count; k++) {
            int nine = house.of(0, k, 0);
            int before = house.of(0, k - 1, 0);
            boolean fine = before < nine || before == nine && house.of(0, k - 1, 1) < house.of(0, k, 1);
            DUE.is("operation " + k + " comes behind " + (k - 1), fine, true);
        }
    }

    private static void sorts() {
        DUE.sentence("The SORT of a MATRIX, by determinant and trace: 1: of trace 3: 1, -1: 2, 0: 3, 1: 4, 2: 6;"
            + " -1: of trace -3: -1, 1: -2, 0: -3, -1: -4, -2: -6 (others have none: 0).");
        String[] texts = {"x,y,z", "-x,-y,z", "-y,x-y,z", "-y,x,z", "x-y,x,z", "-x,-y,-z", "x,y,-z", "y,-x+y,-z", "y,-x,-z",
            "-x+y,-x,-z"};
        int[] due = {1, 2, 3, 4, 6, -1, -2, -3, -4, -6};
        for (int i = 0; i < texts.length; i++) {
            CrystalHouse house = Due.houseOf(texts[i]);
            DUE.is("the sort of " + texts[i], house.of(0, Due.find(texts[i], texts[i]), 2), due[i]);
        }
    }

    private static void fortyOperations() {
        DUE.sentence("OPERATIONS that were told are numbered from 0 on, 40 at most.");
        CrystalHouse house = new CrystalHouse();
        for (int i = 0; i < 40; i++) {
            DUE.is("number " + i, i % 2 == 0 ? house.operation(SAME, i) : Due.read(house, "x,y,-z"), i);
            DUE.is("a refused one has no number", house.operation(0, i), NONE);
        }
        DUE.is("one more by numbers", house.operation(SAME, 0), NONE);
        DUE.is("one more by a text", Due.read(house, "x,y,z"), NONE);
        DUE.is("the last", Due.told(house, 39), "x,y,-z");
        DUE.is("behind the last", house.tell(40), NONE);
        DUE.is("the first", Due.told(house, 0), "x,y,z");
        DUE.is("the last but one", Due.told(house, 38), "x,y+1/24,z+7/12");
    }

    private static void good(String text, String due) {
        CrystalHouse house = new CrystalHouse();
        DUE.is("read() of '" + text + "'", Due.read(house, text), 0);
        DUE.is("fault(0) of '" + text + "'", house.fault(0), 0);
        DUE.is("fault(1) of '" + text + "'", house.fault(1), NONE);
        DUE.is("tell() of '" + text + "'", Due.told(house, 0), due);
    }

    private static void bad(String text, int kind, int place) {
        CrystalHouse house = new CrystalHouse();
        DUE.is("read() of '" + text + "'", Due.read(house, text), NONE);
        DUE.is("fault(0) of '" + text + "'", house.fault(0), kind);
        DUE.is("fault(1) of '" + text + "'", house.fault(1), place);
        DUE.is("tell() behind '" + text + "'", house.tell(0), NONE);
    }

    private static void threeExpressions() {
        DUE.sentence("A TEXT of an OPERATION: three EXPRESSIONS with , between, for the three numbers of the PLACE that comes of x, y, z.");
        good("y,z,x", "y,z,x");
        bad("x", 1, 1);
        bad("x,y", 1, 3);
        bad("x,y,", 1, 4);
        bad("x,y,z,", 1, 5);
        bad("x,y,z,z", 1, 5);
        bad(",x,y,z", 1, 0);
        bad("x,,y,z", 1, 2);
        bad("x,y,,z", 1, 4);
        bad("x;y;z", 1, 1);
        bad("x y,z", 1, 2);
    }

    private static void signsOfTerms() {
        DUE.sentence("TERMS, each with + or - ahead (perhaps not the first): x, y, z");
        good("+x,+y,+z", "x,y,z");
        good("x,-y,+z", "x,-y,z");
        good("1/2+x,1/4-y,-1/4+z", "x+1/2,-y+1/4,z+3/4");
        good("-1/2-x,+1/4+y,z", "-x+1/2,y+1/4,z");
        good("x+y-y,x-y-x,z", "x,-y,z");
        bad("x y,y,z", 1, 2);
        bad("xy,y,z", 1, 1);
        bad("x1/2,y,z", 1, 1);
        bad("1/2x,y,z", 1, 3);
        bad("2x,y,z", 1, 1);
        bad("--x,y,z", 1, 1);
        bad("x+-y,y,z", 1, 2);
        bad("x++1,y,z", 1, 2);
        bad("+,y,z", 1, 1);
        bad("x-,y,z", 1, 2);
        bad("x,y,z+", 1, 6);
    }

    private static void digitsOfNumbers() {
        DUE.sentence("a NUMBER of one or two digits");
        good("x+0,y+9,z+99", "x,y,z");
        good("x+00,y+10,z-99", "x,y,z");
        bad("x+100,y,z", 1, 4);
        bad("x+000,y,z", 1, 4);
        bad("123,y,z", 1, 2);
        bad("x+001/2,y,z", 1, 4);
        bad("x+:,y,z", 1, 2);
    }

    private static void partsOfFractions() {
        DUE.sentence("or such a one, /, and another one: a FRACTION.");
        good("x+1/2,y+12/24,z+6/12", "x+1/2,y+1/2,z+1/2");
        good("x+99/99,y+98/49,z+0/99", "x,y,z");
        bad("x+/2,y,z", 1, 2);
        bad("x+1/,y,z", 1, 4);
        bad("x+1/x,y,z", 1, 4);
        bad("x+1/+2,y,z", 1, 4);
        bad("x+1//2,y,z", 1, 4);
        bad("x+1/2/2,y,z", 1, 5);
        bad("x/2,y,z", 1, 1);
        bad("x,y,z+1/", 1, 8);
        bad("x,y,z+1/ ", 1, 9);
    }

    private static void blanks() {
        DUE.sentence("Blanks (32) may stand between any two of these (also beside a /), ahead of all and behind all,");
        good(" x,y,z", "x,y,z");
        good("x,y,z ", "x,y,z");
        good("   -   x   +   1   /   2   ,   y   ,   z   ", "-x+1/2,y,z");
        good("x +1/2, y+ 1/2 ,z+1 /2", "x+1/2,y+1/2,z+1/2");
        good("x+1/ 2,y,z+ 11 / 12 ", "x+1/2,y,z+11/12");
        good("x+12 ,y,z+x -12 + x - x", "x,y,x+z");
        bad("", 1, 0);
        bad(" ", 1, 1);
        bad("\tx,y,z", 1, 0);
        bad("x\n,y,z", 1, 1);
        bad("x,\u001fy,z", 1, 2);
        bad("x,!y,z", 1, 2);
        bad("x,y,z\u00a0", 1, 5);
        bad("x,y,z\u0000", 1, 5);
    }

    private static void blanksInNumbers() {
        DUE.sentence("but not within a NUMBER (01 is one, too).");
        good("x+01/02,y+00/01,z+05/06", "x+1/2,y,z+5/6");
        good("x+01,y,z", "x,y,z");
        bad("x+0 1/2,y,z", 1, 4);
        bad("x+1 2,y,z", 1, 4);
        bad("x+1/0 2,y,z", 2, 2);
        bad("x+1/2 4,y,z", 1, 6);
        bad("x,y,1 2", 1, 6);
    }

    private static void toldTexts() {
        DUE.sentence("TOLD: x, y, z in this order, with - where so, + between; behind them the SHIFT, if it isn't 0,"
            + " as a FRACTION in lowest terms, with + ahead: \"-y,x-y,z+1/3\".");
        good("-y,-y+x,1/3+z", "-y,x-y,z+1/3");
        good("z+y+x,z+y,z", "x+y+z,y+z,z");
        good("-z-y-x,-z-y,-z", "-x-y-z,-y-z,-z");
        good("z-x,y-x,x", "-x+z,-x+y,x");
        good("x-24/24,y-23/24,z-1/24", "x,y+1/24,z+23/24");
        String[] lowest = {"", "+1/24", "+1/12", "+1/8", "+1/6", "+5/24", "+1/4", "+7/24", "+1/3", "+3/8", "+5/12", "+11/24",
            "+1/2", "+13/24", "+7/12", "+5/8", "+2/3", "+17/24", "+3/4", "+19/24", "+5/6", "+7/8", "+11/12", "+23/24"};
        for (int shift = 0; shift < 24; shift++) {
            good("x+" + shift + "/24,y,z-" + shift + "/24", "x" + lowest[shift] + ",y,z" + lowest[(24 - shift) % 24]);
        }
    }

    private static void firstFault() {
        DUE.sentence("FAULTS of a TEXT, the first from the left, with a place:");
        bad("q,x+1/7,x+x", 1, 0);
        bad("x+1/7,q,x+x", 2, 2);
        bad("x+x,y,q", 1, 6);
        bad("x+x,y,1/7", 2, 6);
        bad("x+1/7,y+1/5", 2, 2);
        bad("x+1/5q", 2, 2);
        bad("x+1/4q+1/5", 1, 5);
        bad("x+1/5", 2, 2);
        bad("x,x,2", 4, 5);
        bad("y+y,y,q", 1, 6);
    }

    private static void bytesThatCannotStand() {
        DUE.sentence("1 a byte that can't stand there");
        String fine = "xyz+-0123456789 ";
        for (int letter = 0; letter < 256; letter++) {
            if (fine.indexOf(letter) < 0) {
                bad((char) letter + ",y,z", 1, 0);
                bad("-" + (char) letter, 1, 1);
            }
            if (" ,+-".indexOf(letter) < 0) {
                bad("x" + (char) letter + ",y,z", 1, 1);
                bad("x,y,z " + (char) letter, 1, 6);
            }
        }
        bad("x,y,z +", 1, 7);
        bad("x,y,z ,", 1, 6);
    }

    private static void endOfText() {
        DUE.sentence("or the TEXT's end (its length).");
        bad("", 1, 0);
        bad("-", 1, 1);
        bad("x+1/", 1, 4);
        bad("x+1", 1, 3);
        bad("x,", 1, 2);
        bad("x,y   ", 1, 6);
        char[] long100 = new char[100];
        Arrays.fill(long100, ' ');
        bad(new String(long100), 1, 100);
        long100[99] = 'x';
        bad(new String(long100), 1, 100);
    }

    private static void fractionsThatDoNotDivide() {
        DUE.sentence("2 a FRACTION, at its first digit, whose second NUMBER is 0, or doesn't divide 24 times the first");
        for (int under = 0; under < 100; under++) {
            for (int over : new int[] {0, 1, 2, 3, 4, 5, 7, 9, 10, 11, 25, 48, 50, 77, 98, 99}) {
                String text = "x+" + over + "/" + under + ",y,z";
                CrystalHouse house = new CrystalHouse();
                boolean fine = under != 0 && 24 * over % under == 0;
                DUE.is("read() of '" + text + "'", Due.read(house, text), fine ? 0 : NONE);
                DUE.is("fault(0) of '" + text + "'", house.fault(0), fine ? 0 : 2);
                DUE.is("fault(1) of '" + text + "'", house.fault(1), fine ? NONE : 2);
            }
        }
        bad("x + 01 / 07 ,y,z", 2, 4);
        bad("x-12/11,y,z", 2, 2);
        bad("0/0,y,z", 2, 0);
        bad("x,y,z-0/00", 2, 6);
    }

    private static void fractionsAreWholeModulo() {
        DUE.sentence("(a NUMBER alone is whole; all is taken modulo 24;");
        good("x+1,y-1,z+23", "x,y,z");
        good("x+24,y-24,z+25", "x,y,z");
        good("x+3/2,y-3/2,z+99/2", "x+1/2,y+1/2,z+1/2");
        good("x+23/24+23/24,y-23/24-23/24,z+1/2-1/2", "x+11/12,y+1/12,z");
        good("x+99/1,y+99/8,z-99/8", "x,y+3/8,z+5/8");
        good("x+2/48,y+3/72,z+4/96", "x+1/24,y+1/24,z+1/24");
        good("x-1/24-1/24-1/24-1/24-1/24-1/24-1/24-1/24-1/24-1/24-1/24-1/24-1/24-1/24-1/24,y,z", "x+3/8,y,z");
    }

    private static void thirdDigits() {
        DUE.sentence("a third digit behind it is a fault of its own, later: 1/234 is 2 at the 1).");
        bad("1/234", 2, 0);
        bad("x+1/234,y,z", 2, 2);
        bad("x+1/244,y,z", 1, 6);
        bad("x+1/240,y,z", 1, 6);
        bad("x+1/024,y,z", 1, 6);
        bad("x+1/000,y,z", 2, 2);
        bad("x+12/345,y,z", 2, 2);
        bad("x+12/123,y,z", 1, 7);
    }

    private static void matrixOfText() {
        DUE.sentence("Then, at its length: 3 a number of the MATRIX (all TERMS together) is none of -1, 0, 1;");
        bad("x+x,y,z", 3, 7);
        bad("-x-x,y,z", 3, 8);
        bad("x,y+z+z,z", 3, 9);
        bad("x,y,z-y-y  ", 3, 11);
        bad(" x,y,x+z+x ", 3, 11);
        bad("x+x,x,x", 3, 7);
        // Each of the nine numbers alone is 2, or -2.
        for (int i = 0; i < 9; i++) {
            String[] rows = {"x", "y", "z"};
            char letter = "xyz".charAt(i % 3);
            rows[i / 3] = letter + "+" + letter + rows[i / 3].replace("" + letter, "").replaceAll("(.)", "+$1");
            bad(String.join(",", rows), 3, String.join(",", rows).length());
            String below = String.join(",", rows).replace(letter + "+" + letter, "-" + letter + "-" + letter);
            bad(below, 3, below.length());
        }
        good("x+x-x,y,z", "x,y,z");
        good("-x-x+x,y,z", "-x,y,z");
        good("x,x+y-x,z+x+x-x", "x,y,x+z");
        bad("x+x+x+x+x+x+x+x+x+x+x+x+x+x+x+x+x+x+x+x+x+x+x+x+x+x+x+x+x+x+x+x+x+x+x+x+x+x+x+x+x+x+x+x+x+x+x+x,y,z",
            3, 99);
    }

    private static void determinantOfText() {
        DUE.sentence("4 its determinant isn't 1 or -1.");
        bad("x,x,z", 4, 5);
        bad("x,y,0", 4, 5);
        bad("0,0,0", 4, 5);
        bad("x-x,y,z", 4, 7);
        bad("1/2,y,z ", 4, 8);
        bad("x+y,x-y,z", 4, 9);
        bad("x+y,-x+y,z", 4, 10);
        bad("x+y,y+z,x+z", 4, 11);
        bad("-x+y+z,x-y+z,x+y-z", 4, 18);
        good("x+y,y,z", "x+y,y,z");
        good("-x,-y,-z", "-x,-y,-z");
    }

    // ---- promises 1 to 10 ----

    private static void newObject() {
        DUE.sentence("No OPERATIONS, GROUPS, CELLS, MODELS, PHASES; no TEXT; nothing is chosen.");
        CrystalHouse other = Due.houseOf("-x,-y,-z");
        other.choose(0);
        other.cell(1, 1, 1, 0, 0, 0);
        other.model(0, 0);
        other.atom(0, 1, 0);
        other.phase(1, 1, 1);
        Due.feed(other, "x,y,z", 0);
        other.end(3);
        CrystalHouse house = new CrystalHouse();
        DUE.is("tell(0)", house.tell(0), NONE);
        DUE.is("choose(0)", house.choose(0), false);
        DUE.is("about(0, 0)", house.about(0, 0), NONE);
        DUE.is("tellOf(0, 0)", house.tellOf(0, 0), NONE);
        DUE.is("reduced(0, 0)", house.reduced(0, 0), 0);
        DUE.is("multiples(0, 1)", house.multiples(0, 1), NONE);
        DUE.is("model(0, 0)", house.model(0, 0), NONE);
        DUE.is("lines(0, 1)", house.lines(0, 1), NONE);
        DUE.is("above(0, 1)", house.above(0, 1), 0);
        DUE.is("above(0, 2)", house.above(0, 2), 0);
        DUE.is("letter(0)", house.letter(0), NONE);
        DUE.is("end(0)", house.end(0), 0);
        DUE.is("group()", house.group(), 0);
        DUE.is("about(0, 0)", house.about(0, 0), 1);
        DUE.is("operation()", house.operation(SAME, 0), 0);
        DUE.is("cell()", house.cell(1, 1, 1, 0, 0, 0), 0);
        DUE.is("model()", house.model(0, 0), 0);
        DUE.is("placed(0, 0, 0)", house.placed(0, 0, 0), NONE);
        DUE.is("phase()", house.phase(1, 1, 1), 0);
    }

    private static void bytesInTheirOrder() {
        DUE.sentence("Twenty bytes wait, those of a first, the highest of each first.");
        // Each byte in turn is one that can't stand there, behind blanks.
        for (int at = 0; at < 20; at++) {
            for (int wrong : new int[] {1, 127, 128, 255}) {
                int[] five = {0x20202020, 0x20202020, 0x20202020, 0x20202020, 0x20202020};
                five[at / 4] ^= (0x20 ^ wrong) << (24 - 8 * (at % 4));
                CrystalHouse house = new CrystalHouse();
                house.feed(five[0], five[1], five[2], five[3], five[4]);
                house.end(20);
                house.read();
                DUE.is("fault(0) of byte " + at, house.fault(0), 1);
                DUE.is("fault(1) of byte " + at, house.fault(1), at);
            }
        }
        CrystalHouse house = new CrystalHouse();
        Due.feed(house, "qqqqqqqqqqqqqqqqqqqq", 0);
        Due.feed(house, "x+1/2,y+1/4,z+23/24 ", 0);
        DUE.is("end(20)", house.end(20), 20);
        DUE.is("read()", house.read(), 0);
        DUE.is("tell(0), of the latest feed()", Due.told(house, 0), "x+1/2,y+1/4,z+23/24");
    }

    private static void faultAt(CrystalHouse house, String call, int place) {
        house.read();
        DUE.is("the fault of a byte 0, " + call, house.fault(0), 1);
        DUE.is("the place of a byte 0, " + call, house.fault(1), place);
    }

    private static void bytesThatWaitAreZero() {
        DUE.sentence("(They are 0 at first, and behind each end() that is not refused.)");
        CrystalHouse house = new CrystalHouse();
        house.end(20);
        faultAt(house, "at first", 0);
        Due.feed(house, "x,y,z               ", 0);
        house.end(5);
        house.end(1);
        faultAt(house, "behind end(5)", 5);
        Due.feed(house, "                    ", 0);
        house.end(0);
        house.end(20);
        faultAt(house, "behind end(0)", 0);
        Due.feed(house, "                    ", 0);
        house.end(19);
        house.end(20);
        faultAt(house, "behind end(19)", 19);
        Due.feed(house, "x,y,z", 0);
        house.end(21);
        house.end(-1);
        DUE.is("end(5) behind refused ones", house.end(5), 5);
        DUE.is("read() behind refused ones", house.read(), 0);
    }

    private static void endTakesTheFirst() {
        DUE.sentence("The first n of the bytes that wait come behind the TEXT: how many it has.");
        CrystalHouse house = new CrystalHouse();
        String text = " x + 1 / 4 , y , z ";
        for (int i = 0; i < text.length(); i++) {
            Due.feed(house, text.charAt(i) + "q", 0);
            DUE.is("end(1)", house.end(1), i + 1);
            DUE.is("end(0)", house.end(0), i + 1);
        }
        DUE.is("read()", house.read(), 0);
        DUE.is("tell(0)", Due.told(house, 0), "x+1/4,y,z");
        DUE.is("end(20)", house.end(20), 20);
        DUE.is("end(19)", house.end(19), 39);
    }

    private static void endRefused() {
        DUE.sentence("NONE, refused, when n isn't 0 .. 20, or there would be more than 100.");
        CrystalHouse house = new CrystalHouse();
        for (int n : Due.beyond(0, 20)) {
            DUE.is("end(" + n + ")", house.end(n), NONE);
        }
        DUE.is("end(0)", house.end(0), 0);
        for (int i = 1; i < 5; i++) {
            Due.feed(house, "                    ", 0);
            DUE.is("end(20)", house.end(20), 20 * i);
        }
        Due.feed(house, "                    ", 0);
        DUE.is("end(10)", house.end(10), 90);
        Due.feed(house, "     x,y,z", 0);
        DUE.is("end(11)", house.end(11), NONE);
        DUE.is("end(20)", house.end(20), NONE);
        DUE.is("end(10), of what waits still", house.end(10), 100);
        DUE.is("end(1)", house.end(1), NONE);
        for (int n : Due.beyond(0, 20)) {
            DUE.is("end(" + n + ") of a full text", house.end(n), NONE);
        }
        DUE.is("end(0) of a full text", house.end(0), 100);
        DUE.is("read() of a full text", house.read(), 0);
        DUE.is("tell(0)", Due.told(house, 0), "x,y,z");
    }

    private static void readEmpties() {
        DUE.sentence("The TEXT, which is empty then, is a new OPERATION: its number.");
        CrystalHouse house = new CrystalHouse();
        DUE.is("read()", Due.read(house, "x,y,z"), 0);
        DUE.is("end(0) behind read()", house.end(0), 0);
        DUE.is("read() of an equal one", Due.read(house, "x,y,z"), 1);
        DUE.is("read() of a fault", Due.read(house, "x,y,q"), NONE);
        DUE.is("end(0) behind a fault", house.end(0), 0);
        DUE.is("read() of an empty text", house.read(), NONE);
        DUE.is("read() behind faults", Due.read(house, "-x,y,z"), 2);
        DUE.is("tell(2)", Due.told(house, 2), "-x,y,z");
    }

    private static void readRefused() {
        DUE.sentence("NONE: a FAULT, or else (5, its place NONE) there are 40.");
        CrystalHouse house = new CrystalHouse();
        for (int i = 0; i < 39; i++) {
            house.operation(SAME, i);
        }
        DUE.is("read() of the 40th", Due.read(house, "-x,y,z"), 39);
        DUE.is("fault(0) of the 40th", house.fault(0), 0);
        DUE.is("read() of one more", Due.read(house, "x,-y,z"), NONE);
        DUE.is("fault(0) of one more", house.fault(0), 5);
        DUE.is("fault(1) of one more", house.fault(1), NONE);
        DUE.is("end(0)", house.end(0), 0);
        String[] texts = {"x,y,q", "x,y,z+1/7", "x,y,y+y", "x,y,x"};
        int[] places = {4, 6, 7, 5};
        for (int i = 0; i < 4; i++) {
            DUE.is("read() of '" + texts[i] + "' beyond 40", Due.read(house, texts[i]), NONE);
            DUE.is("fault(0) of '" + texts[i] + "' beyond 40", house.fault(0), i + 1);
            DUE.is("fault(1) of '" + texts[i] + "' beyond 40", house.fault(1), places[i]);
        }
        DUE.is("tell(39)", Due.told(house, 39), "-x,y,z");
        DUE.is("tell(40)", house.tell(40), NONE);
    }

    private static void faultBefore() {
        DUE.sentence("Of the latest read(): the FAULT, 0 without one, or before (what 0), its place, NONE without one (1).");
        CrystalHouse house = new CrystalHouse();
        DUE.is("fault(0) before", house.fault(0), 0);
        DUE.is("fault(1) before", house.fault(1), NONE);
        Due.read(house, "x,y+1/5,z");
        DUE.is("fault(0)", house.fault(0), 2);
        DUE.is("fault(1)", house.fault(1), 4);
        house.operation(-1, 0);
        house.operation(SAME, 0);
        house.tell(0);
        Due.feed(house, "q", 0);
        house.end(1);
        DUE.is("fault(0), again", house.fault(0), 2);
        DUE.is("fault(1), again", house.fault(1), 4);
        house.read();
        DUE.is("fault(0) of the latest", house.fault(0), 1);
        DUE.is("fault(1) of the latest", house.fault(1), 0);
        Due.read(house, "x,y,z");
        DUE.is("fault(0) of a good one", house.fault(0), 0);
        DUE.is("fault(1) of a good one", house.fault(1), NONE);
    }

    private static void faultOfAnotherWhat() {
        DUE.sentence("(1). NONE for another what.");
        CrystalHouse house = new CrystalHouse();
        Due.read(house, "x,y+1/5,z");
        for (int what : Due.beyond(0, 1)) {
            DUE.is("fault(" + what + ")", house.fault(what), NONE);
        }
    }

    private static void digitsOfOperation() {
        DUE.sentence("its MATRIX's numbers, row by row, are the nine lowest digits of nine written with a base of 3, the highest"
            + " first, each less 1; its SHIFT's those of shift with a base of 24 (three, the highest first): its number.");
        CrystalHouse house = new CrystalHouse();
        DUE.is("the first number", house.operation(nine(1, 1, 1, 0, 1, 1, 0, 0, 1), Due.place(1, 2, 3)), 0);
        DUE.is("tell(0)", Due.told(house, 0), "x+y+z+1/24,y+z+1/12,z+1/8");
        DUE.is("the next number", house.operation(nine(-1, 0, 0, -1, -1, 0, -1, -1, -1), 13823), 1);
        DUE.is("tell(1)", Due.told(house, 1), "-x+23/24,-x-y+23/24,-x-y-z+23/24");
        DUE.is("an equal one is a new one", house.operation(nine(1, 1, 1, 0, 1, 1, 0, 0, 1), Due.place(1, 2, 3)), 2);
        int lowest = lowestFrom(0, 1);
        int highest = lowestFrom(19682, -1);
        DUE.is("the lowest matrix", house.operation(lowest, 0), 3);
        DUE.is("tell(3)", Due.told(house, 3), "-x-y-z,-x-y,-x-z");
        DUE.is("the highest matrix", house.operation(highest, 0), 4);
        DUE.is("tell(4)", Due.told(house, 4), "x+y+z,x+y,x+z");
    }

    private static int lowestFrom(int from, int step) {
        int nine = from;
        while (Math.abs(determinant(nine)) != 1) {
            nine += step;
        }
        return nine;
    }

    private static void operationRefused() {
        DUE.sentence("NONE, refused, when there are 40, nine isn't 0 .. 19,682, shift not 0 .. 13,823, or the determinant isn't 1 or -1.");
        CrystalHouse house = new CrystalHouse();
        for (int nine : Due.beyond(0, 19682)) {
            DUE.is("operation(" + nine + ", 0)", house.operation(nine, 0), NONE);
        }
        DUE.is("a tenth digit", house.operation(19683 + SAME, 0), NONE);
        DUE.is("digits below 0", house.operation(SAME - 19683, 0), NONE);
        for (int shift : Due.beyond(0, 13823)) {
            DUE.is("operation(16484, " + shift + ")", house.operation(SAME, shift), NONE);
        }
        DUE.is("a fourth digit", house.operation(SAME, 13824 + 5), NONE);
        DUE.is("determinant 0", house.operation(9841, 0), NONE);
        DUE.is("determinant 2", house.operation(nine(1, 1, 0, -1, 1, 0, 0, 0, 1), 0), NONE);
        DUE.is("determinant -2", house.operation(nine(1, 1, 0, 1, -1, 0, 0, 0, 1), 0), NONE);
        DUE.is("determinant 4", house.operation(nine(-1, 1, 1, 1, -1, 1, 1, 1, -1), 0), NONE);
        DUE.is("a good one behind them", house.operation(SAME, 13823), 0);
        DUE.is("the other good end", house.operation(SAME, 0), 1);
        for (int i = 2; i < 40; i++) {
            DUE.is("number " + i, house.operation(SAME, 0), i);
        }
        DUE.is("beyond 40", house.operation(SAME, 0), NONE);
        DUE.is("choose(39)", house.choose(39), true);
        DUE.is("choose(40)", house.choose(40), false);
    }

    private static void tell() {
        DUE.sentence("OUT becomes the TEXT of an OPERATION: how many characters.");
        CrystalHouse house = new CrystalHouse();
        String longest = "-x-y-z+23/24,-x-y+23/24,-x+23/24";
        Due.read(house, longest);
        Due.read(house, "z,x,y");
        DUE.is("tell(0)", house.tell(0), longest.length());
        DUE.is("OUT", Due.out(house), longest);
        DUE.is("tell(1)", house.tell(1), 5);
        DUE.is("OUT, of a shorter one", Due.out(house), "z,x,y");
        DUE.is("tell(0), again", house.tell(0), longest.length());
        DUE.is("OUT, of the longer one", Due.out(house), longest);
    }

    private static void tellNone() {
        DUE.sentence("OUT becomes the TEXT of an OPERATION: how many characters. NONE, and OUT stays, when there is none such.");
        CrystalHouse house = new CrystalHouse();
        Due.read(house, "-x,y,z");
        Due.read(house, "z,x,y+1/8");
        house.tell(1);
        for (int operation : Due.noneOf(2)) {
            DUE.is("tell(" + operation + ")", house.tell(operation), NONE);
            DUE.is("OUT stays", Due.out(house), "z,x,y+1/8");
        }
    }

    private static void tellOf() {
        DUE.sentence("OUT becomes the TEXT of OPERATION k of a GROUP: how many characters.");
        CrystalHouse house = Due.houseOf("-x,y+1/2,-z+1/2", "-x,-y,-z");
        Due.group(house, "x+1/24,y,z");
        String[] texts = {"-x,-y,-z", "-x,y+1/2,-z+1/2", "x,-y+1/2,z+1/2", "x,y,z"};
        for (int k = 0; k < 4; k++) {
            DUE.is("tellOf(0, " + k + ")", house.tellOf(0, k), texts[k].length());
            DUE.is("OUT", Due.out(house), texts[k]);
        }
        DUE.is("tellOf(1, 23)", house.tellOf(1, 23), 11);
        DUE.is("OUT", Due.out(house), "x+23/24,y,z");
    }

    private static void tellOfNone() {
        DUE.sentence("OUT becomes the TEXT of OPERATION k of a GROUP: how many characters. NONE, and OUT stays, when there is none such.");
        CrystalHouse house = Due.houseOf("-x,y+1/2,-z+1/2", "-x,-y,-z");
        house.tellOf(0, 2);
        for (int k : Due.noneOf(4)) {
            DUE.is("tellOf(0, " + k + ")", house.tellOf(0, k), NONE);
            DUE.is("OUT stays", house.letter(2), '-');
        }
        for (int group : Due.noneOf(1)) {
            DUE.is("tellOf(" + group + ", 0)", house.tellOf(group, 0), NONE);
            DUE.is("OUT stays", house.letter(2), '-');
        }
        DUE.is("OUT", Due.out(house), "x,-y+1/2,z+1/2");
    }

    private static void letterNone() {
        DUE.sentence("Character i of OUT; NONE when there is none.");
        CrystalHouse house = Due.houseOf("-x,y,-z");
        DUE.is("letter(0) before", house.letter(0), NONE);
        house.tell(0);
        String due = "-x,y,-z";
        for (int i = 0; i < 7; i++) {
            DUE.is("letter(" + i + ")", house.letter(i), due.charAt(i));
        }
        for (int i : Due.noneOf(7)) {
            DUE.is("letter(" + i + ")", house.letter(i), NONE);
        }
        house.tellOf(0, 1);
        DUE.is("letter(4) of a shorter one", house.letter(4), 'z');
        DUE.is("letter(5) of a shorter one", house.letter(5), NONE);
        house.group();
        Due.read(house, "x,y");
        DUE.is("letter(4), still", house.letter(4), 'z');
    }

    private static void chooseTwice() {
        DUE.sentence("An OPERATION is chosen for the next GROUP, or not any more.");
        CrystalHouse house = new CrystalHouse();
        Due.read(house, "-x,-y,-z");
        Due.read(house, "x,y,-z");
        DUE.is("choose(0)", house.choose(0), true);
        DUE.is("choose(1)", house.choose(1), true);
        DUE.is("choose(0), not any more", house.choose(0), true);
        DUE.is("the group of the other", house.of(house.group(), 0, 2), -2);
        DUE.is("choose(0)", house.choose(0), true);
        DUE.is("choose(0), not any more", house.choose(0), true);
        DUE.is("choose(0), once more", house.choose(0), true);
        DUE.is("the group of it", house.of(house.group(), 0, 2), -1);
        DUE.is("the next group is of none", house.about(house.group(), 0), 1);
    }

    private static void chooseRefused() {
        DUE.sentence("False, refused, when there is none such.");
        CrystalHouse house = new CrystalHouse();
        Due.read(house, "-x,-y,-z");
        Due.read(house, "x,y,-z");
        for (int operation : Due.noneOf(2)) {
            DUE.is("choose(" + operation + ")", house.choose(operation), false);
        }
        Due.read(house, "-x,y,z");
        DUE.is("nothing is chosen, also not what is told now", house.about(house.group(), 0), 1);
    }
}

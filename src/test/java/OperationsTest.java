/** Promises 1 to 10: a new object, texts, and operations told by them or by numbers. */
public final class OperationsTest {
    private static final int NONE = CrystalHouse.NONE;
    private static final Due DUE = new Due();

    public static void main(String[] args) {
        newObject();
        feed();
        end();
        readTexts();
        readUntilFull();
        faults();
        faultOfLatest();
        operation();
        tell();
        tellOf();
        letter();
        choose();
        DUE.close("promises 1 to 10 hold");
    }

    private static void newObject() {
        DUE.promise(1);
        CrystalHouse house = new CrystalHouse();
        CrystalHouse other = new CrystalHouse();
        Due.read(other, "-x,-y,-z");
        other.choose(0);
        other.tell(0);
        other.cell(4, 9, 16, 0, 0, 0);
        other.phase(1, 1, 5);
        DUE.is("NONE", CrystalHouse.NONE, -1);
        DUE.is("tell(0)", house.tell(0), NONE);
        DUE.is("letter(0)", house.letter(0), NONE);
        DUE.is("choose(0)", house.choose(0), false);
        DUE.is("about(0, 0)", house.about(0, 0), NONE);
        DUE.is("reduced(0, 0)", house.reduced(0, 0), 0);
        DUE.is("placed(0, 0, 0)", house.placed(0, 0, 0), NONE);
        DUE.is("above(0, 1)", house.above(0, 1), 0);
        DUE.is("above(0, 2)", house.above(0, 2), 0);
        DUE.is("end(0)", house.end(0), 0);
        DUE.is("group()", house.group(), 0);
        DUE.is("about(0, 0)", house.about(0, 0), 1);
    }

    private static void feed() {
        DUE.promise(2);
        CrystalHouse house = new CrystalHouse();
        house.end(1);
        house.read();
        DUE.is("fault(0) of a byte 0", house.fault(0), 1);
        DUE.is("fault(1) of a byte 0", house.fault(1), 0);
        house.feed(-1, -1, -1, -1, -1);
        Due.feed(house, "-z + 5/24,-x+1/4,y+0", 0);
        DUE.is("end(20)", house.end(20), 20);
        DUE.is("read()", house.read(), 0);
        DUE.is("tell(0)", Due.told(house, 0), "-z+5/24,-x+1/4,y");
        Due.feed(house, "x,y,z  ", 0);
        house.end(5);
        DUE.is("end(1) of what waits no more", house.end(1), 6);
        house.read();
        DUE.is("fault(1)", house.fault(1), 5);
        Due.feed(house, "x,y,-z", 0);
        DUE.is("end(21)", house.end(21), NONE);
        DUE.is("end(6) behind a refused one", house.end(6), 6);
        DUE.is("read()", house.read(), 1);
        Due.feed(house, "x,y,-z", 0);
        house.end(0);
        house.end(1);
        house.read();
        DUE.is("fault(1) behind end(0)", house.fault(1), 0);
        house.feed(0x782c79ff, 0, 0, 0, 0);
        house.end(4);
        house.read();
        DUE.is("fault(1) of a byte 255", house.fault(1), 3);
    }

    private static void end() {
        DUE.promise(3);
        CrystalHouse house = new CrystalHouse();
        DUE.is("end(-1)", house.end(-1), NONE);
        DUE.is("end(21)", house.end(21), NONE);
        DUE.is("end(0)", house.end(0), 0);
        for (int i = 1; i <= 4; i++) {
            Due.feed(house, "                    ", 0);
            DUE.is("end(20)", house.end(20), 20 * i);
        }
        Due.feed(house, "x, y  ,  z          ", 0);
        DUE.is("end(19)", house.end(19), 99);
        Due.feed(house, " ", 0);
        DUE.is("end(2)", house.end(2), NONE);
        DUE.is("end(1)", house.end(1), 100);
        DUE.is("end(1)", house.end(1), NONE);
        DUE.is("end(0)", house.end(0), 100);
        DUE.is("end of the least number", house.end(Integer.MIN_VALUE), NONE);
        DUE.is("end of the greatest number", house.end(Integer.MAX_VALUE), NONE);
        DUE.is("read()", house.read(), 0);
        DUE.is("end(0) behind read()", house.end(0), 0);
    }

    private static void readTexts() {
        DUE.promise(4);
        String[] pairs = {
            "x,y,z", "x,y,z",
            "-x,-y,-z", "-x,-y,-z",
            " - x + 1 / 2 , +y , z ", "-x+1/2,y,z",
            "01/2+x,y,z", "x+1/2,y,z",
            "x-1/3,y,z", "x+2/3,y,z",
            "x+x-x,y,z", "x,y,z",
            "-y,x - y,1/3+z", "-y,x-y,z+1/3",
            "z-x,y,x", "-x+z,y,x",
            "x+99/99,y,z", "x,y,z",
            "x+0/7,y,z", "x,y,z",
            "x+7,y-12,z+00", "x,y,z",
            "x+2/48,y,z", "x+1/24,y,z",
            "x+1/2+1/2,y-1/24,z+3/2", "x,y+23/24,z+1/2",
            "x+10/24,y+16/24,z+9/12", "x+5/12,y+2/3,z+3/4",
            "x,y,z+1/8", "x,y,z+1/8",
            "+ z,+ x,+ y", "z,x,y",
            "y+z+x,z+y,z", "x+y+z,y+z,z"
        };
        CrystalHouse house = new CrystalHouse();
        for (int i = 0; i < pairs.length; i += 2) {
            DUE.is("read() of '" + pairs[i] + "'", Due.read(house, pairs[i]), i / 2);
            DUE.is("tell() of '" + pairs[i] + "'", Due.told(house, i / 2), pairs[i + 1]);
            DUE.is("fault(0) of '" + pairs[i] + "'", house.fault(0), 0);
            DUE.is("fault(1) of '" + pairs[i] + "'", house.fault(1), NONE);
        }
        Due.read(house, "x,y");
        DUE.is("end(0) behind a fault", house.end(0), 0);
    }

    private static void readUntilFull() {
        DUE.promise(4);
        CrystalHouse house = new CrystalHouse();
        for (int i = 0; i < 40; i++) {
            DUE.is("read()", Due.read(house, "x,y,z"), i);
        }
        DUE.is("read() beyond 40", Due.read(house, "x,y,z"), NONE);
        DUE.is("fault(0)", house.fault(0), 5);
        DUE.is("fault(1)", house.fault(1), NONE);
        DUE.is("end(0)", house.end(0), 0);
        DUE.is("read() beyond 40, with a fault", Due.read(house, "x,y,q"), NONE);
        DUE.is("fault(0)", house.fault(0), 1);
        DUE.is("fault(1)", house.fault(1), 4);
        Due.read(house, "x,y,x");
        DUE.is("fault(0)", house.fault(0), 4);
        DUE.is("operation() beyond 40", house.operation(16484, 0), NONE);
        DUE.is("choose(39)", house.choose(39), true);
        DUE.is("choose(40)", house.choose(40), false);
        DUE.is("tell(39)", house.tell(39), 5);
        DUE.is("tell(40)", house.tell(40), NONE);
        DUE.is("group() with 40 told", house.group(), 0);
    }

    private static void faults() {
        DUE.promise(5);
        faultOf("", 1, 0);
        faultOf(" ", 1, 1);
        faultOf("x", 1, 1);
        faultOf("x,y", 1, 3);
        faultOf("x,y,", 1, 4);
        faultOf("x,y,z,", 1, 5);
        faultOf("x,y,z z", 1, 6);
        faultOf(",y,z", 1, 0);
        faultOf("x,,z", 1, 2);
        faultOf("X,y,z", 1, 0);
        faultOf("w,y,z", 1, 0);
        faultOf("x\t,y,z", 1, 1);
        faultOf("+-x,y,z", 1, 1);
        faultOf("x+,y,z", 1, 2);
        faultOf("x + ", 1, 4);
        faultOf("xy,y,z", 1, 1);
        faultOf("x1,y,z", 1, 1);
        faultOf("1x,y,z", 1, 1);
        faultOf("2/3x,y,z", 1, 3);
        faultOf("123,y,z", 1, 2);
        faultOf("123/7,y,z", 1, 2);
        faultOf("1 2,y,z", 1, 2);
        faultOf("x+1/2 4,y,z", 1, 6);
        faultOf("1/,y,z", 1, 2);
        faultOf("x+1/", 1, 4);
        faultOf("1/x,y,z", 1, 2);
        faultOf("1/-2,y,z", 1, 2);
        faultOf("1//2,y,z", 1, 2);
        faultOf("/2,y,z", 1, 0);
        faultOf("x/2,y,z", 1, 1);
        faultOf("1/2/3,y,z", 1, 3);
        faultOf("x+1/244,y,z", 1, 6);
        faultOf("x+1/2,q,z", 1, 6);
        faultOf("x.,y,z", 1, 1);
        faultOf("x,y,z\u00ff", 1, 5);
        faultOf("x+1/0,y,z", 2, 2);
        faultOf("x+1/00,y,z", 2, 2);
        faultOf("0/0,y,z", 2, 0);
        faultOf("x+1/5,q", 2, 2);
        faultOf("x+1/234,y,z", 2, 2);
        faultOf("1/234", 2, 0);
        faultOf("x+12/7,y,z", 2, 2);
        faultOf("x + 1 / 7,y,z", 2, 4);
        faultOf("x-01/48,y,z", 2, 2);
        faultOf("x,y,z+1/7", 2, 6);
        faultOf("x,y,z+1/7 ", 2, 6);
        faultOf("x+x,y,z", 3, 7);
        faultOf("x,y,z-y-y ", 3, 10);
        faultOf("x+x,x,x", 3, 7);
        faultOf("x,x,z", 4, 5);
        faultOf("1/2,y,z", 4, 7);
        faultOf("x-x,y,z", 4, 7);
        faultOf("x+y,x-y,z", 4, 9);
    }

    private static void faultOf(String text, int kind, int place) {
        CrystalHouse house = new CrystalHouse();
        DUE.is("read() of '" + text + "'", Due.read(house, text), NONE);
        DUE.is("fault(0) of '" + text + "'", house.fault(0), kind);
        DUE.is("fault(1) of '" + text + "'", house.fault(1), place);
        DUE.is("read() behind '" + text + "'", Due.read(house, "x,y,z"), 0);
    }

    private static void faultOfLatest() {
        DUE.promise(5);
        CrystalHouse house = new CrystalHouse();
        DUE.is("fault(0) before", house.fault(0), 0);
        DUE.is("fault(1) before", house.fault(1), NONE);
        DUE.is("fault(2)", house.fault(2), NONE);
        DUE.is("fault(-1)", house.fault(-1), NONE);
        Due.read(house, "x,y");
        house.operation(16484, 0);
        house.operation(0, 0);
        Due.feed(house, "x,y,z", 0);
        house.end(5);
        DUE.is("fault(0) of the latest", house.fault(0), 1);
        DUE.is("fault(1) of the latest", house.fault(1), 3);
        DUE.is("fault(2) of the latest", house.fault(2), NONE);
        house.read();
        DUE.is("fault(0) behind a good one", house.fault(0), 0);
        DUE.is("fault(1) behind a good one", house.fault(1), NONE);
    }

    private static void operation() {
        DUE.promise(6);
        CrystalHouse house = new CrystalHouse();
        DUE.is("operation(16484, 0)", house.operation(16484, 0), 0);
        DUE.is("tell(0)", Due.told(house, 0), "x,y,z");
        DUE.is("operation(3198, 13823)", house.operation(3198, 13823), 1);
        DUE.is("tell(1)", Due.told(house, 1), "-x+23/24,-y+23/24,-z+23/24");
        DUE.is("operation(16484, 1)", house.operation(16484, 1), 2);
        DUE.is("tell(2)", Due.told(house, 2), "x,y,z+1/24");
        DUE.is("operation(16484, 576)", house.operation(16484, 576), 3);
        DUE.is("tell(3)", Due.told(house, 3), "x+1/24,y,z");
        int hexagonal = Integer.parseInt("101201112", 3);
        DUE.is("operation(-y,x-y,z)", house.operation(hexagonal, 8), 4);
        DUE.is("tell(4)", Due.told(house, 4), "-y,x-y,z+1/3");
        DUE.is("operation(-1, 0)", house.operation(-1, 0), NONE);
        DUE.is("operation(19683, 0)", house.operation(19683, 0), NONE);
        DUE.is("operation(16484, -1)", house.operation(16484, -1), NONE);
        DUE.is("operation(16484, 13824)", house.operation(16484, 13824), NONE);
        DUE.is("operation of a tenth digit", house.operation(19683 + 16484, 0), NONE);
        DUE.is("operation below 0", house.operation(16484 - 19683, 0), NONE);
        DUE.is("operation of a fourth digit", house.operation(16484, 13824 + 5), NONE);
        DUE.is("operation of a determinant 0", house.operation(19682, 0), NONE);
        DUE.is("operation of a determinant 2", house.operation(Integer.parseInt("221021102", 3), 0), NONE);
        DUE.is("operation of the greatest", house.operation(Integer.MAX_VALUE, Integer.MAX_VALUE), NONE);
        for (int i = 5; i < 40; i++) {
            DUE.is("operation(16484, i)", house.operation(16484, i), i);
        }
        DUE.is("operation beyond 40", house.operation(16484, 0), NONE);
    }

    private static void tell() {
        DUE.promise(7);
        CrystalHouse house = new CrystalHouse();
        Due.read(house, "-x-y-z+23/24,-x-y+23/24,-x+23/24");
        DUE.is("tell(0)", house.tell(0), 32);
        DUE.is("OUT", Due.out(house), "-x-y-z+23/24,-x-y+23/24,-x+23/24");
        DUE.is("tell(1)", house.tell(1), NONE);
        DUE.is("tell(-1)", house.tell(-1), NONE);
        DUE.is("letter(0) of OUT, which stays", house.letter(0), '-');
        Due.read(house, "x,y,z");
        DUE.is("tell(1)", house.tell(1), 5);
        DUE.is("OUT", Due.out(house), "x,y,z");
        String[] shifts = {"", "+1/24", "+1/12", "+1/8", "+1/6", "+5/24", "+1/4", "+7/24", "+1/3", "+3/8", "+5/12",
            "+11/24", "+1/2", "+13/24", "+7/12", "+5/8", "+2/3", "+17/24", "+3/4", "+19/24", "+5/6", "+7/8", "+11/12",
            "+23/24"};
        for (int shift = 0; shift < 24; shift++) {
            CrystalHouse moved = new CrystalHouse();
            DUE.is("tell of a shift", Due.told(moved, moved.operation(16484, shift)), "x,y,z" + shifts[shift]);
        }
    }

    private static void tellOf() {
        DUE.promise(8);
        CrystalHouse house = new CrystalHouse();
        int group = Due.group(house, "-x,y+1/2,-z+1/2", "-x,-y,-z");
        String[] texts = {"-x,-y,-z", "-x,y+1/2,-z+1/2", "x,-y+1/2,z+1/2", "x,y,z"};
        for (int k = 0; k < 4; k++) {
            DUE.is("tellOf(0, " + k + ")", house.tellOf(group, k), texts[k].length());
            DUE.is("OUT", Due.out(house), texts[k]);
        }
        DUE.is("tellOf(0, 4)", house.tellOf(group, 4), NONE);
        DUE.is("tellOf(0, -1)", house.tellOf(group, -1), NONE);
        DUE.is("tellOf(1, 0)", house.tellOf(1, 0), NONE);
        DUE.is("tellOf(-1, 0)", house.tellOf(-1, 0), NONE);
        DUE.is("OUT, which stays", Due.out(house), "x,y,z");
    }

    private static void letter() {
        DUE.promise(9);
        CrystalHouse house = new CrystalHouse();
        DUE.is("letter(0) before", house.letter(0), NONE);
        Due.read(house, "-x,y+1/2,z");
        house.tell(0);
        DUE.is("letter(-1)", house.letter(-1), NONE);
        DUE.is("letter(0)", house.letter(0), 45);
        DUE.is("letter(3)", house.letter(3), 121);
        DUE.is("letter(9)", house.letter(9), 122);
        DUE.is("letter(10)", house.letter(10), NONE);
        Due.read(house, "x,y,z");
        house.tell(1);
        DUE.is("letter(5) of a shorter one", house.letter(5), NONE);
        DUE.is("letter of the greatest", house.letter(Integer.MAX_VALUE), NONE);
        DUE.is("letter of the least", house.letter(Integer.MIN_VALUE), NONE);
    }

    private static void choose() {
        DUE.promise(10);
        CrystalHouse house = new CrystalHouse();
        Due.read(house, "-x,-y,-z");
        Due.read(house, "-x,-y,z");
        DUE.is("choose(2)", house.choose(2), false);
        DUE.is("choose(-1)", house.choose(-1), false);
        DUE.is("choose(0)", house.choose(0), true);
        DUE.is("choose(1)", house.choose(1), true);
        DUE.is("choose(0) again", house.choose(0), true);
        int group = house.group();
        DUE.is("about(0, 0)", house.about(group, 0), 2);
        DUE.is("of(0, 0, 2)", house.of(group, 0, 2), 2);
        DUE.is("group() of none", house.about(house.group(), 0), 1);
    }
}

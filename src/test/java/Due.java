import java.nio.charset.StandardCharsets;

/** What is due, held against what was answered. No house is asked more than 512 times: beyond that nothing is promised. */
final class Due {
    static final int NONE = CrystalHouse.NONE;

    private int wrong = 0;
    private String where = "";

    void promise(int number) {
        where = "promise " + number;
    }

    /** What follows holds the class to these words of the document; SentencesTest sees to it that they stand there. */
    void sentence(String words) {
        where = "'" + words + "'";
    }

    void is(String call, long got, long want) {
        if (got != want) {
            wrong++;
            System.out.println(where + ": " + call + " answered " + got + ", due is " + want);
        }
    }

    void is(String call, boolean got, boolean want) {
        is(call, got ? 1 : 0, want ? 1 : 0);
    }

    void is(String call, String got, String want) {
        if (!got.equals(want)) {
            wrong++;
            System.out.println(where + ": " + call + " answered " + got + ", due is " + want);
        }
    }

    void close(String fine) {
        System.out.println(wrong == 0 ? fine : wrong + " answers are not as due");
        if (wrong != 0) {
            System.exit(1);
        }
    }

    /** Five numbers of twenty bytes, the first of a text from a place on. */
    static int[] five(String text, int from) {
        byte[] bytes = text.getBytes(StandardCharsets.ISO_8859_1);
        int[] five = new int[5];
        for (int i = 0; i < 20 && from + i < bytes.length; i++) {
            five[i / 4] |= (bytes[from + i] & 255) << (24 - 8 * (i % 4));
        }
        return five;
    }

    static void feed(CrystalHouse house, String text, int from) {
        int[] five = five(text, from);
        house.feed(five[0], five[1], five[2], five[3], five[4]);
    }

    static int read(CrystalHouse house, String text) {
        for (int from = 0; from < text.length(); from += 20) {
            feed(house, text, from);
            house.end(Math.min(20, text.length() - from));
        }
        return house.read();
    }

    /** The group of what the texts tell. */
    static int group(CrystalHouse house, String... texts) {
        for (String text : texts) {
            house.choose(read(house, text));
        }
        return house.group();
    }

    static String out(CrystalHouse house) {
        StringBuilder out = new StringBuilder();
        int letter = house.letter(0);
        for (int i = 1; letter != NONE; i++) {
            out.append((char) letter);
            letter = house.letter(i);
        }
        return out.toString();
    }

    static String told(CrystalHouse house, int operation) {
        int length = house.tell(operation);
        String out = length == NONE ? "none" : out(house);
        return length == NONE || length == out.length() ? out : "not as long as told: " + out;
    }

    /** The number of an operation in the group of what texts tell; it is looked for in a house of its own. */
    static int find(String text, String... makers) {
        CrystalHouse house = houseOf(makers);
        for (int k = 0; k < house.about(0, 0); k++) {
            house.tellOf(0, k);
            if (out(house).equals(text)) {
                return k;
            }
        }
        return NONE;
    }

    static int place(int x, int y, int z) {
        return (x * 24 + y) * 24 + z;
    }

    /** Numbers just beyond two ends, far beyond them, and such as would be within if high bits were lost. */
    static int[] beyond(int low, int high) {
        int[] all = {low - 1, high + 1, Integer.MIN_VALUE, Integer.MAX_VALUE, low + (1 << 16), low - (1 << 16),
            low + (1 << 24), high + (1 << 30), low + Integer.MIN_VALUE, low - (1 << 30)};
        int[] more = new int[all.length + 2];
        System.arraycopy(all, 0, more, 0, all.length);
        more[all.length] = high < low + 255 ? low + 256 : high + 2;
        more[all.length + 1] = high < low + 255 ? low - 256 : low - 2;
        return more;
    }

    /** Numbers at which there is nothing, if there are so many things from 0 on. */
    static int[] noneOf(int count) {
        return beyond(0, count - 1);
    }

    /** A house with one group, told by texts; its number is 0. */
    static CrystalHouse houseOf(String... texts) {
        CrystalHouse house = new CrystalHouse();
        group(house, texts);
        return house;
    }
}

import java.nio.charset.StandardCharsets;

/** What is due, held against what was answered. */
final class Due {
    static final int NONE = CrystalHouse.NONE;

    private int wrong = 0;
    private int promise = 0;

    void promise(int number) {
        promise = number;
    }

    void is(String call, long got, long want) {
        if (got != want) {
            wrong++;
            System.out.println("promise " + promise + ": " + call + " answered " + got + ", due is " + want);
        }
    }

    void is(String call, boolean got, boolean want) {
        is(call, got ? 1 : 0, want ? 1 : 0);
    }

    void is(String call, String got, String want) {
        if (!got.equals(want)) {
            wrong++;
            System.out.println("promise " + promise + ": " + call + " answered " + got + ", due is " + want);
        }
    }

    void close(String fine) {
        System.out.println(wrong == 0 ? fine : wrong + " answers are not as due");
        if (wrong != 0) {
            System.exit(1);
        }
    }

    /** Five numbers of twenty bytes, the first of a text from a place on. */
    static int[] five(String text, int from) {
        byte[] bytes = text.getBytes(StandardCharsets.ISO_8859_1);
        int[] five = new int[5];
        for (int i = 0; i < 20 && from + i < bytes.length; i++) {
            five[i / 4] |= (bytes[from + i] & 255) << (24 - 8 * (i % 4));
        }
        return five;
    }

    static void feed(CrystalHouse house, String text, int from) {
        int[] five = five(text, from);
        house.feed(five[0], five[1], five[2], five[3], five[4]);
    }

    static int read(CrystalHouse house, String text) {
        for (int from = 0; from < text.length(); from += 20) {
            feed(house, text, from);
            house.end(Math.min(20, text.length() - from));
        }
        return house.read();
    }

    /** The group of what the texts tell. */
    static int group(CrystalHouse house, String... texts) {
        for (String text : texts) {
            house.choose(read(house, text));
        }
        return house.group();
    }

    static String out(CrystalHouse house) {
        StringBuilder out = new StringBuilder();
        for (int i = 0; house.letter(i) != NONE; i++) {
            out.append((char) house.letter(i));
        }
        return out.toString();
    }

    static String told(CrystalHouse house, int operation) {
        int length = house.tell(operation);
        String out = length == NONE ? "none" : out(house);
        return length == NONE || length == out.length() ? out : "not as long as told: " + out;
    }

    static int place(int x, int y, int z) {
        return (x * 24 + y) * 24 + z;
    }
}

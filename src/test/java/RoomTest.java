import java.lang.management.ManagementFactory;

/** The dearest runs of 512 calls make few objects: all calls of a run live in one room. */
public final class RoomTest {
    private static final Due DUE = new Due();
    private static final int MOST_CALLS = 512;
    // The room has 7.3 million fields and elements; a quarter of it, at 8 bytes each, is far more than a run may need.
    private static final long MOST_BYTES = 7_300_000L * 8 / 4;

    private static final com.sun.management.ThreadMXBean THREADS =
        (com.sun.management.ThreadMXBean) ManagementFactory.getThreadMXBean();

    public static void main(String[] args) {
        measure("multiples", RoomTest::manyMultiples);
        measure("models", RoomTest::manyModels);
        measure("groups", RoomTest::manyGroups);
        measure("refused cells", house -> {
            for (int i = 0; i < MOST_CALLS; i++) {
                house.cell(1, 1, 1, 1, 0, 0);
            }
        });
        DUE.close("the room is wide enough");
    }

    private interface Run {
        void on(CrystalHouse house);
    }

    private static void measure(String name, Run run) {
        run.on(new CrystalHouse());
        long before = THREADS.getCurrentThreadAllocatedBytes();
        run.on(new CrystalHouse());
        long bytes = THREADS.getCurrentThreadAllocatedBytes() - before;
        System.out.println(name + ": " + bytes + " bytes");
        DUE.is("the bytes of " + name + ": " + bytes, bytes < MOST_BYTES, true);
    }

    private static void manyMultiples(CrystalHouse house) {
        for (int i = 0; i < 40; i++) {
            house.cell(1000 + i, 2003, 3001, 101, 57, 211);
        }
        for (int i = 40; i < MOST_CALLS; i++) {
            house.multiples(i % 40, 1 + i / 40);
        }
    }

    private static void manyModels(CrystalHouse house) {
        house.group();
        house.cell(1009, 2003, 3001, 101, 57, 211);
        int calls = 2;
        for (int i = 0; i < 20; i++) {
            house.model(0, 0);
            house.atom(i, 7, i);
            calls += 2;
        }
        for (int m = 1; m <= 6; m++) {
            for (int i = 0; i < 20; i++) {
                house.lines(i, m);
                calls++;
            }
        }
        for (int i = 0; calls < MOST_CALLS; i++) {
            house.atom(i % 20, 7, 50 + i);
            house.lines(i % 20, 6);
            calls += 2;
        }
    }

    private static void manyGroups(CrystalHouse house) {
        String[] texts = {"-x,-y,z", "x,-y,-z", "-x,-y,-z", "x+1/2,y,z", "x,y+1/2,z", "x,y,z+1/2", "z,x,y"};
        int calls = 0;
        for (String text : texts) {
            Due.read(house, text);
            calls += 3;
        }
        for (int i = 0; i < 6; i++) {
            house.choose(i);
        }
        house.group();
        for (int i = 0; calls < MOST_CALLS; i++) {
            house.half(0, i % 63);
            house.about(i % 60, 5);
            house.about(i % 60, 6);
            house.choose(i % 7);
            house.choose((i + 1) % 7);
            house.choose((i + 3) % 7);
            house.group();
            calls += 7;
        }
    }
}

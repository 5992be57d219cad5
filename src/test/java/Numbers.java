/** Numbers that look random and are the same in every run. */
final class Numbers {
    private long state;

    Numbers(long seed) {
        state = seed;
    }

    long next() {
        state += 0x9E3779B97F4A7C15L;
        long z = state;
        z = (z ^ (z >>> 30)) * 0xBF58476D1CE4E5B9L;
        z = (z ^ (z >>> 27)) * 0x94D049BB133111EBL;
        return z ^ (z >>> 31);
    }

    int below(int n) {
        return (int) Long.remainderUnsigned(next(), n);
    }

    /** From low to high, both may come. */
    int from(int low, int high) {
        return low + below(high - low + 1);
    }

    boolean once(int in) {
        return below(in) == 0;
    }

    int pick(int... of) {
        return of[below(of.length)];
    }

    String pick(String... of) {
        return of[below(of.length)];
    }

    /** A number of one of so many things: nearly always one that there is. */
    int index(int count) {
        if (count == 0 || once(25)) {
            return pick(-1, count, count + 1, -7, Integer.MAX_VALUE, Integer.MIN_VALUE);
        }
        return once(3) ? count - 1 : below(count);
    }
}

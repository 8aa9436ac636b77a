/** Numbers that look drawn, the same from the same seed on every machine. */
final class Draws {
    private long state;

    Draws(long seed) {
        state = seed;
        nextLong();
    }

    long nextLong() {
        state += 0x9E3779B97F4A7C15L;
        long mixed = (state ^ state >>> 30) * 0xBF58476D1CE4E5B9L;
        mixed = (mixed ^ mixed >>> 27) * 0x94D049BB133111EBL;
        return mixed ^ mixed >>> 31;
    }

    int nextInt() {
        return (int) nextLong();
    }

    int nextInt(int below) {
        return (int) Math.floorMod(nextLong(), (long) below);
    }

    boolean nextBoolean() {
        return nextLong() < 0;
    }
}

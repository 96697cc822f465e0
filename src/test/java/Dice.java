/** Numbers for made-up runs: from the same start always the same ones. */
final class Dice {
    private long seed;

    Dice(long start) {
        this.seed = start;
    }

    /** One of 0 .. end - 1. */
    int pick(int end) {
        seed = seed * 6364136223846793005L + 1442695040888963407L;
        return (int) Math.floorMod(seed >>> 33, (long) end);
    }
}

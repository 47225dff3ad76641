/** Numbers that look thrown, and are the same for each run of a test. */
final class Dice {
    private long state;

    Dice(int seed) {
        state = seed * 2654435761L + 88172645463325252L;
    }

    int upTo(int many) {
        state ^= state << 13;
        state ^= state >>> 7;
        state ^= state << 17;
        return (int) Math.floorMod(state >>> 11, (long) many);
    }

    int of(int... choices) {
        return choices[upTo(choices.length)];
    }
}

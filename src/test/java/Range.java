/** Arguments beyond the ends of a range, some of which a mask, a cast or an overflow would bring back into it. */
final class Range {
    private Range() { }

    static int[] below(int least) {
        return new int[] {least - 1, least - 2, least - 256, -1000000, Integer.MIN_VALUE + 1, Integer.MIN_VALUE};
    }

    static int[] above(int greatest) {
        return new int[] {greatest + 1, greatest + 2, greatest + 64, greatest + 256, greatest + 65536,
            Integer.MAX_VALUE - 1, Integer.MAX_VALUE};
    }
}

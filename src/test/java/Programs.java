import java.util.Arrays;

/** Lists of tokens, and programs that come close to a limit. */
final class Programs {
    private Programs() { }

    static int[] list(int... tokens) {
        return tokens;
    }

    static int[] joined(int[]... lists) {
        return Arrays.stream(lists).flatMapToInt(Arrays::stream).toArray();
    }

    static int[] times(int count, int... tokens) {
        int[][] lists = new int[count][];
        Arrays.fill(lists, tokens);
        return joined(lists);
    }

    /** The body with name 0 having the least int: 256, and then 2 to the power of 16 + 8 + 7. */
    static int[] withLeast(int... body) {
        return joined(list(60, 55, 116, 116, 60, 55, 55, 30, 30, 55, 30, 55, 116, 108), body);
    }

    /** Calls itself twice for each number from count to 0, and then works out the last term. */
    static int[] countDown(int count, int... last) {
        return joined(list(60, 40, 41, 57, 31, 52, 52, 30, 30, 54, 31, 101), last,
            list(52, 52, 30, 30, 100 + count));
    }

    /** Puts out count, count - 1 .. 1, and then works out the last term. */
    static int[] putDown(int count, int... last) {
        return joined(list(60, 40, 41, 57, 31, 62, 58, 31, 52, 52, 30, 30, 54, 31, 101), last,
            list(52, 52, 30, 30, 100 + count));
    }

    /** count, count - 1 .. 1, and then the last numbers: what putDown puts out. */
    static int[] down(int count, int... last) {
        int[] numbers = new int[count];
        for (int i = 0; i < count; i++) {
            numbers[i] = count - i;
        }
        return joined(numbers, last);
    }
}

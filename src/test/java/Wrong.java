import java.util.stream.IntStream;

/** Numbers out of bounds. */
final class Wrong {
    private Wrong() {
    }

    /** None of least .. most: just beyond, far beyond, and such that have some of the same bits. */
    static int[] of(int least, int most) {
        int[] all = {least - 1, most + 1, least - 2, most + 2, least + 8, most + 32, most + 64, least + 256, least - 256,
            least + 65536, -1000000, Integer.MIN_VALUE, Integer.MIN_VALUE + 1, Integer.MAX_VALUE, Integer.MAX_VALUE - 1, 1 << 30};
        return IntStream.of(all).filter(n -> n < least || n > most).toArray();
    }
}

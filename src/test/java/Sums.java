import java.math.BigInteger;
import java.util.Arrays;

/** What sum is due to answer, reckoned with whole numbers of any length and cut to an int at the end alone. */
final class Sums {
    private Sums() {
    }

    static int of(int... bytes) {
        BigInteger total = BigInteger.valueOf(7);
        for (int b : bytes) {
            total = total.multiply(BigInteger.valueOf(31)).add(BigInteger.valueOf(b));
        }
        return total.intValue();
    }

    static int ofEqualBytes(int many, int each) {
        int[] bytes = new int[many];
        Arrays.fill(bytes, each);
        return of(bytes);
    }
}

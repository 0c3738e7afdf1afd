/** Keeps one whole number from 1 to 30000 at hand and answers questions about its prime factors. */
public final class PrimeDesk {
    public static final int BAD = -1;
    public static final int NONE = -2;

    // Products of two numbers up to this one stay below 2 to the power of 31, so int is wide enough throughout.
    private static final int GREATEST = 30000;

    // 2 to the power of 15 is above GREATEST, so no number at hand has more prime factors than this.
    private static final int MOST_FACTORS = 14;

    // Always from 1 to GREATEST: it is safe to divide by it.
    private int number;

    public PrimeDesk() {
        number = 1;
    }

    public boolean take(int n) {
        if (outside(n, 1)) {
            return false;
        }
        number = n;
        return true;
    }

    public boolean isPrime() {
        return primeTest(number);
    }

    public int factors() {
        int count = 0;
        while (count < MOST_FACTORS && primeFactor(count) != NONE) {
            count++;
        }
        return count;
    }

    public int factor(int k) {
        return primeFactor(k);
    }

    public int divisors() {
        int count = 0;
        for (int d = 1; d <= number; d++) {
            if (number % d == 0) {
                count++;
            }
        }
        return count;
    }

    public int sum() {
        int total = 0;
        for (int d = 1; d <= number; d++) {
            if (number % d == 0) {
                total += d;
            }
        }
        return total;
    }

    public int coprimes() {
        int count = number;
        for (int p = 2; p <= number; p++) {
            if (number % p == 0 && primeTest(p)) {
                // One in p of the numbers still counted is a multiple of p, so this division leaves no rest.
                count = count / p * (p - 1);
            }
        }
        return count;
    }

    public int nextPrime() {
        int candidate = number + 1;
        // There is always a prime above a number and not above its double (Bertrand), so the bound never cuts short.
        while (candidate < 2 * number && !primeTest(candidate)) {
            candidate++;
        }
        return candidate;
    }

    public int power(int base, int exponent) {
        if (outside(base, 0) || outside(exponent, 0)) {
            return BAD;
        }
        // Not simply 1: on division by 1 even the empty product leaves 0.
        int rest = 1 % number;
        for (int i = 0; i < exponent; i++) {
            rest = rest * base % number;
        }
        return rest;
    }

    public int order(int base) {
        if (outside(base, 1)) {
            return BAD;
        }
        return smallestExponent(base);
    }

    public int root(int a) {
        if (outside(a, 0)) {
            return BAD;
        }
        if (!primeTest(number)) {
            return NONE;
        }
        int wanted = a % number;
        for (int x = 0; x < number; x++) {
            if (x * x % number == wanted) {
                return x;
            }
        }
        return NONE;
    }

    public int generator() {
        if (!primeTest(number)) {
            return NONE;
        }
        for (int g = 1; g < number; g++) {
            if (smallestExponent(g) == number - 1) {
                return g;
            }
        }
        return NONE;
    }

    private static boolean outside(int value, int least) {
        return value < least || value > GREATEST;
    }

    private static boolean primeTest(int m) {
        return m > 1 && smallestFactor(m) == m;
    }

    /** The smallest prime factor of m, for m from 2 to twice GREATEST. */
    private static int smallestFactor(int m) {
        // Of two factors that make m, the smaller one's square is not above m. A quotient is compared, not the
        // square: a square could wrap around, and then the loop's end would rest on what the callers hand in.
        for (int d = 2; d <= m / d; d++) {
            if (m % d == 0) {
                return d;
            }
        }
        return m;
    }

    private int primeFactor(int k) {
        int rest = number;
        for (int i = 0; i < MOST_FACTORS && rest > 1; i++) {
            int p = smallestFactor(rest);
            if (i == k) {
                return p;
            }
            rest = rest / p;
        }
        return NONE;
    }

    /** The order of a base from 1 to GREATEST, or NONE. */
    private int smallestExponent(int base) {
        int rest = 1;
        // An order is below the number at hand. A power that shares a factor with it never leaves 1,
        // and for the number 1 the loop is empty: both come out as NONE without a test of their own.
        for (int e = 1; e < number; e++) {
            rest = rest * base % number;
            if (rest == 1) {
                return e;
            }
        }
        return NONE;
    }
}

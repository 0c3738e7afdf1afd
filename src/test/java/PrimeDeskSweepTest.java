import java.math.BigInteger;
import java.util.Arrays;

/** Compares answers over whole ranges with answers found in another way than the program's. */
public final class PrimeDeskSweepTest {
    private static final int GREATEST = 30000;
    private static final int SIEVE_END = 31000;
    private static final int BAD = -1;
    private static final int NONE = -2;

    private static final int[] smallest = new int[SIEVE_END + 1];
    private static final int[] divisorCount = new int[GREATEST + 1];
    private static final int[] divisorSum = new int[GREATEST + 1];

    private static int wrong = 0;

    public static void main(String[] args) {
        sieve();
        for (int n = 1; n <= GREATEST; n++) {
            // A new object for each number keeps every object below its 512 calls.
            PrimeDesk desk = new PrimeDesk();
            due("take", n, 0, desk.take(n) ? 1 : 0, 1);
            due("isPrime", n, 0, desk.isPrime() ? 1 : 0, prime(n) ? 1 : 0);
            factors(desk, n);
            due("divisors", n, 0, desk.divisors(), divisorCount[n]);
            due("sum", n, 0, desk.sum(), divisorSum[n]);
            due("nextPrime", n, 0, desk.nextPrime(), primeAbove(n));
            due("generator", n, 0, desk.generator(), prime(n) ? generatorOf(n) : NONE);
            // These take long: every small number, the greatest ones, and one in 13 between them.
            if (n <= 1000 || n > GREATEST - 200 || n % 13 == 4) {
                powersAndOrders(desk, n);
            }
        }
        coprimes();
        smallNumbersWithEveryArgument();
        roots();
        takesOutsideTheRange();
        System.out.println(wrong == 0 ? "all answers are as due" : wrong + " answers are not as due");
        if (wrong != 0) {
            System.exit(1);
        }
    }

    private static void due(String call, int n, int argument, int got, int want) {
        if (got == want) {
            return;
        }
        wrong++;
        if (wrong <= 100) {
            System.out.println(call + " of " + n + " (argument " + argument + ") answered " + got + ", due is " + want);
        }
    }

    private static PrimeDesk deskWith(int n) {
        PrimeDesk desk = new PrimeDesk();
        desk.take(n);
        return desk;
    }

    private static void sieve() {
        for (int p = 2; p <= SIEVE_END; p++) {
            if (smallest[p] == 0) {
                for (int m = p; m <= SIEVE_END; m += p) {
                    if (smallest[m] == 0) {
                        smallest[m] = p;
                    }
                }
            }
        }
        for (int d = 1; d <= GREATEST; d++) {
            for (int m = d; m <= GREATEST; m += d) {
                divisorCount[m]++;
                divisorSum[m] += d;
            }
        }
    }

    private static boolean prime(int n) {
        return n > 1 && smallest[n] == n;
    }

    private static int primeAbove(int n) {
        int p = n + 1;
        while (!prime(p)) {
            p++;
        }
        return p;
    }

    private static int gcd(int a, int b) {
        return b == 0 ? a : gcd(b, a % b);
    }

    private static int modPow(int base, int exponent, int n) {
        return BigInteger.valueOf(base).modPow(BigInteger.valueOf(exponent), BigInteger.valueOf(n)).intValue();
    }

    /** Whether e is the order of base: the power leaves 1, and no e divided by a prime does. */
    private static boolean isOrder(int base, int e, int n) {
        if (e < 1 || modPow(base, e, n) != 1) {
            return false;
        }
        for (int rest = e; rest > 1; rest /= smallest[rest]) {
            if (modPow(base, e / smallest[rest], n) == 1) {
                return false;
            }
        }
        return true;
    }

    private static int generatorOf(int p) {
        int g = 1;
        while (!isOrder(g, p - 1, p)) {
            g++;
        }
        return g;
    }

    private static void factors(PrimeDesk desk, int n) {
        int count = 0;
        for (int rest = n; rest > 1; rest /= smallest[rest]) {
            due("factor", n, count, desk.factor(count), smallest[rest]);
            count++;
        }
        due("factors", n, 0, desk.factors(), count);
        due("factor", n, count, desk.factor(count), NONE);
        due("factor", n, -1, desk.factor(-1), NONE);
    }

    private static void powersAndOrders(PrimeDesk desk, int n) {
        int spread = n * 7919 % GREATEST + 1;
        int[] bases = {1, 2, 3, 10, spread, n, GREATEST - 1, GREATEST};
        for (int base : bases) {
            orderIsDue(desk, n, base);
            int exponent = (base + spread) % (GREATEST + 1);
            due("power to " + exponent, n, base, desk.power(base, exponent), modPow(base, exponent, n));
        }
        due("power to 0", n, 0, desk.power(0, 0), n == 1 ? 0 : 1);
        due("power to 1", n, 0, desk.power(0, 1), 0);
        due("order", n, 0, desk.order(0), BAD);
        due("order", n, GREATEST + 1, desk.order(GREATEST + 1), BAD);
    }

    private static void orderIsDue(PrimeDesk desk, int n, int base) {
        int got = desk.order(base);
        if (n == 1 || gcd(base, n) != 1) {
            due("order", n, base, got, NONE);
        } else if (!isOrder(base, got, n)) {
            wrong++;
            System.out.println("order of " + n + " (argument " + base + ") answered " + got + ", which is not the order");
        }
    }

    /** Euler: the coprime counts of all divisors of n add up to n. This settles every count, one after the other. */
    private static void coprimes() {
        int[] counted = new int[GREATEST + 1];
        for (int n = 1; n <= GREATEST; n++) {
            int want = n - counted[n];
            due("coprimes", n, 0, deskWith(n).coprimes(), want);
            for (int m = n; m <= GREATEST; m += n) {
                counted[m] += want;
            }
        }
    }

    private static void smallNumbersWithEveryArgument() {
        for (int n = 1; n <= 60; n++) {
            PrimeDesk desk = deskWith(n);
            for (int a = 1; a <= 130; a++) {
                orderIsDue(desk, n, a);
                due("power to 3", n, a, desk.power(a, 3), a * a * a % n);
                due("power to itself", n, a, desk.power(2, a), modPow(2, a, n));
            }
        }
    }

    private static void roots() {
        int[] numbers = {1, 2, 3, 4, 5, 9, 13, 17, 97, 173, 257, 12289, 29929, 29983, 29989, GREATEST};
        for (int n : numbers) {
            int[] rootOf = smallestRoots(n);
            PrimeDesk desk = deskWith(n);
            // Every argument for the small numbers; for the great ones a walk that meets both ends.
            int step = n < 1000 ? 1 : 7;
            int calls = 0;
            for (int a = GREATEST; a >= 0; a -= step) {
                if (++calls % 500 == 0) {
                    desk = deskWith(n);
                }
                due("root", n, a, desk.root(a), prime(n) ? rootOf[a % n] : NONE);
            }
            due("root", n, 0, deskWith(n).root(0), prime(n) ? 0 : NONE);
            due("root", n, -1, deskWith(n).root(-1), BAD);
            due("root", n, GREATEST + 1, deskWith(n).root(GREATEST + 1), BAD);
        }
    }

    private static int[] smallestRoots(int n) {
        int[] rootOf = new int[n];
        Arrays.fill(rootOf, NONE);
        for (int x = n - 1; x >= 0; x--) {
            rootOf[(int) ((long) x * x % n)] = x;
        }
        return rootOf;
    }

    private static void takesOutsideTheRange() {
        for (int away = 1; away <= 40000; away++) {
            PrimeDesk desk = deskWith(41);
            due("take below", 41, 1 - away, desk.take(1 - away) ? 1 : 0, 0);
            due("take above", 41, GREATEST + away, desk.take(GREATEST + away) ? 1 : 0, 0);
            due("sum after refused takes", 41, away, desk.sum(), 42);
        }
    }
}

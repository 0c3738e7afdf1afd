import java.util.ArrayList;
import java.util.List;
import java.util.function.Consumer;

/**
 * A test for each sentence of the document that names a boundary case. Each stands on objects of its own, and
 * a wrong answer is printed together with the sentence that it breaks.
 */
public final class PrimeDeskBoundariesTest {
    private static final int MIN = Integer.MIN_VALUE;
    private static final int MAX = Integer.MAX_VALUE;
    private static final int GREATEST = 30000;
    private static final int GREATEST_PRIME = 29989;
    private static final int MOST_CALLS = 512;
    private static final int BAD = -1;
    private static final int NONE = -2;

    // The first ones outside, both ends of int, and numbers that a narrower type or a lost sign would bring inside.
    private static final int[] BELOW_ZERO = {-1, -2, -7, -30000, -30001, -65535, -65536, MIN + 7, MIN + 1, MIN};
    private static final int[] ABOVE = {30001, 30002, 30011, 32768, 65536, 65537, 65543, MAX - 1, MAX};

    // 1, the smallest primes and products, an ordinary one of each, and the greatest ones.
    private static final int[] NUMBERS = {1, 2, 3, 4, 6, 7, 9, 12, 41, 16384, 29929, GREATEST_PRIME, 29999, GREATEST};
    private static final int[] PRIMES = {2, 3, 5, 7, 41, 29983, GREATEST_PRIME};
    private static final int[] NO_PRIMES = {1, 4, 6, 9, 561, 29929, 29990, 29999, GREATEST};

    private static String sentence = "";
    private static int sentences = 0;
    private static int wrong = 0;

    public static void main(String[] args) {
        terms();
        promisesOneToFive();
        promisesSixToNine();
        promiseTen();
        promiseEleven();
        promiseTwelve();
        promiseThirteen();
        promiseFourteen();
        System.out.println(sentences + " sentences tested, " + wrong + " answers are not as due");
        if (wrong != 0) {
            System.exit(1);
        }
    }

    private static void test(String text, Runnable body) {
        sentence = text;
        sentences++;
        body.run();
    }

    private static void due(String call, int got, int want) {
        if (got != want) {
            wrong++;
            System.out.println("[" + sentence + "] " + call + " answered " + got + ", due is " + want);
        }
    }

    private static void due(String call, boolean got, boolean want) {
        due(call, got ? 1 : 0, want ? 1 : 0);
    }

    private static PrimeDesk deskWith(int n) {
        PrimeDesk desk = new PrimeDesk();
        due("take(" + n + ")", desk.take(n), true);
        return desk;
    }

    private static int[] outside(int least) {
        List<Integer> values = new ArrayList<>();
        for (int value : BELOW_ZERO) {
            values.add(value);
        }
        for (int value = 0; value < least; value++) {
            values.add(value);
        }
        for (int value : ABOVE) {
            values.add(value);
        }
        return values.stream().mapToInt(Integer::intValue).toArray();
    }

    // ---- What it is, Terms

    private static void terms() {
        test("What it is: at most 512 calls", PrimeDeskBoundariesTest::theLastCallStillAnswers);
        test("What it is: at most 512 calls, 511 of them takes", PrimeDeskBoundariesTest::manyTakesStillTake);
        test("Terms: a PRIME is a number above 1", () -> {
            isPrimeIs(1, false);
            isPrimeIs(2, true);
        });
        test("Terms: that only 1 and itself divide", () -> {
            isPrimeIs(3, true);
            isPrimeIs(4, false);
            isPrimeIs(9, false);
            isPrimeIs(29929, false);
            isPrimeIs(29983, true);
            for (int n = 29984; n <= GREATEST; n++) {
                isPrimeIs(n, n == GREATEST_PRIME);
            }
        });
    }

    private static void isPrimeIs(int n, boolean want) {
        due("isPrime() of " + n, deskWith(n).isPrime(), want);
    }

    /** Each kind of call once as the 512th, behind 511 that are answered and refused in turn. */
    private static void theLastCallStillAnswers() {
        due("isPrime() as the last call", usedUp().isPrime(), true);
        due("factors() as the last call", usedUp().factors(), 1);
        due("factor(0) as the last call", usedUp().factor(0), GREATEST_PRIME);
        due("factor(1) as the last call", usedUp().factor(1), NONE);
        due("divisors() as the last call", usedUp().divisors(), 2);
        due("sum() as the last call", usedUp().sum(), GREATEST_PRIME + 1);
        due("coprimes() as the last call", usedUp().coprimes(), GREATEST_PRIME - 1);
        due("nextPrime() as the last call", usedUp().nextPrime(), 30011);
        due("power(30000, 2) as the last call", usedUp().power(GREATEST, 2), 121);
        due("power(30001, 2) as the last call", usedUp().power(30001, 2), BAD);
        due("order(2) as the last call", usedUp().order(2), GREATEST_PRIME - 1);
        due("order(0) as the last call", usedUp().order(0), BAD);
        due("root(121) as the last call", usedUp().root(121), 11);
        due("root(2) as the last call", usedUp().root(2), NONE);
        due("generator() as the last call", usedUp().generator(), 2);
        due("take(30000) as the last call", usedUp().take(GREATEST), true);
        due("take(30001) as the last call", usedUp().take(30001), false);
    }

    /** An object with the greatest prime at hand that has one call left. */
    private static PrimeDesk usedUp() {
        PrimeDesk desk = deskWith(GREATEST_PRIME);
        for (int call = 2; call < MOST_CALLS; call++) {
            switch (call % 6) {
                case 0 -> due("take(0)", desk.take(0), false);
                case 1 -> due("factor(0)", desk.factor(0), GREATEST_PRIME);
                case 2 -> due("power(2, 15)", desk.power(2, 15), 2779);
                case 3 -> due("order(30001)", desk.order(30001), BAD);
                case 4 -> due("root(4)", desk.root(4), 2);
                default -> due("factors()", desk.factors(), 1);
            }
        }
        return desk;
    }

    private static void manyTakesStillTake() {
        PrimeDesk desk = new PrimeDesk();
        for (int call = 1; call < MOST_CALLS; call++) {
            due("take(" + call + ")", desk.take(call), true);
        }
        due("factor(1) of 511 as the last call", desk.factor(1), 73);
    }

    // ---- Promises 1 to 5

    private static void promisesOneToFive() {
        test("1: the number at hand is 1", PrimeDeskBoundariesTest::aNewObjectHasOneAtHand);
        test("2: puts a number at hand, the first and the last one", () -> {
            PrimeDesk desk = new PrimeDesk();
            int[] ends = {1, 2, 29999, GREATEST, 1, GREATEST};
            for (int n : ends) {
                due("take(" + n + ")", desk.take(n), true);
                shows("after take(" + n + ")", desk, n);
            }
        });
        test("2: n outside 1..30000: refused, answers false", () -> {
            for (int n : outside(1)) {
                due("take(" + n + ") on a new object", new PrimeDesk().take(n), false);
                due("take(" + n + ") with 30000 at hand", deskWith(GREATEST).take(n), false);
            }
        });
        test("3: whether the number at hand is a prime", () -> {
            due("isPrime() of a new object", new PrimeDesk().isPrime(), false);
            for (int n : PRIMES) {
                isPrimeIs(n, true);
            }
            for (int n : NO_PRIMES) {
                isPrimeIs(n, false);
            }
        });
        test("4: the number of its prime factors, none and the most", () -> {
            due("factors() of 1", deskWith(1).factors(), 0);
            due("factors() of 2", deskWith(2).factors(), 1);
            due("factors() of 29989", deskWith(GREATEST_PRIME).factors(), 1);
            due("factors() of 16384", deskWith(16384).factors(), 14);
            due("factors() of 24576", deskWith(24576).factors(), 14);
        });
        test("4: each as often as it divides it", () -> {
            due("factors() of 4", deskWith(4).factors(), 2);
            due("factors() of 29929", deskWith(29929).factors(), 2);
            due("factors() of 30000", deskWith(GREATEST).factors(), 9);
        });
        test("5: from 0, in ascending order, each as often as it divides it", () -> {
            factorIs(2, 0, 2);
            factorIs(4, 1, 2);
            factorIs(24576, 0, 2);
            factorIs(24576, 12, 2);
            factorIs(24576, 13, 3);
            factorIs(29929, 0, 173);
            factorIs(29929, 1, 173);
            factorIs(29966, 0, 2);
            factorIs(29966, 1, 14983);
            factorIs(GREATEST_PRIME, 0, GREATEST_PRIME);
            factorIs(GREATEST, 3, 2);
            factorIs(GREATEST, 4, 3);
            factorIs(GREATEST, 5, 5);
            factorIs(GREATEST, 8, 5);
        });
        test("5: NONE if there is none, behind the last one", PrimeDeskBoundariesTest::noFactorBehindTheLast);
        test("5: NONE if there is none, before the first one", PrimeDeskBoundariesTest::noFactorBeforeTheFirst);
    }

    /** Each question once as the very first call, so that none leans on what another one leaves behind. */
    private static void aNewObjectHasOneAtHand() {
        due("isPrime() first", new PrimeDesk().isPrime(), false);
        due("factors() first", new PrimeDesk().factors(), 0);
        due("factor(0) first", new PrimeDesk().factor(0), NONE);
        due("divisors() first", new PrimeDesk().divisors(), 1);
        due("sum() first", new PrimeDesk().sum(), 1);
        due("coprimes() first", new PrimeDesk().coprimes(), 1);
        due("nextPrime() first", new PrimeDesk().nextPrime(), 2);
        due("power(5, 3) first", new PrimeDesk().power(5, 3), 0);
        due("order(1) first", new PrimeDesk().order(1), NONE);
        due("root(0) first", new PrimeDesk().root(0), NONE);
        due("generator() first", new PrimeDesk().generator(), NONE);
        shows("new object", new PrimeDesk(), 1);
    }

    private static void factorIs(int n, int k, int want) {
        due("factor(" + k + ") of " + n, deskWith(n).factor(k), want);
    }

    private static void noFactorBehindTheLast() {
        for (int n : NUMBERS) {
            int count = primeFactorsOf(n).size();
            int[] behind = {count, count + 1, 14, 15, 16, 31, 32, 64, 255, 256, 29999, GREATEST, 30001, 65536, MAX - 1, MAX};
            for (int k : behind) {
                factorIs(n, k, NONE);
            }
        }
    }

    private static void noFactorBeforeTheFirst() {
        for (int n : NUMBERS) {
            for (int k : BELOW_ZERO) {
                factorIs(n, k, NONE);
            }
        }
    }

    // ---- Promises 6 to 9

    private static void promisesSixToNine() {
        test("6: how many numbers divide it, itself and 1 among them", () -> {
            due("divisors() of 1", deskWith(1).divisors(), 1);
            due("divisors() of 2", deskWith(2).divisors(), 2);
            due("divisors() of 4", deskWith(4).divisors(), 3);
            due("divisors() of 27720", deskWith(27720).divisors(), 96);
            due("divisors() of 29989", deskWith(GREATEST_PRIME).divisors(), 2);
            due("divisors() of 30000", deskWith(GREATEST).divisors(), 50);
        });
        test("7: the sum of all numbers that divide it, itself and 1 among them", () -> {
            due("sum() of 1", deskWith(1).sum(), 1);
            due("sum() of 2", deskWith(2).sum(), 3);
            due("sum() of 16384", deskWith(16384).sum(), 32767);
            // The greatest sum of all, far above what 16 bits hold.
            due("sum() of 27720", deskWith(27720).sum(), 112320);
            due("sum() of 29989", deskWith(GREATEST_PRIME).sum(), 29990);
            due("sum() of 30000", deskWith(GREATEST).sum(), 96844);
        });
        test("8: 1 for 1", () -> {
            due("coprimes() of a new object", new PrimeDesk().coprimes(), 1);
            due("coprimes() of 1", deskWith(1).coprimes(), 1);
        });
        test("8: how many numbers from 1 to it", () -> {
            due("coprimes() of 2", deskWith(2).coprimes(), 1);
            due("coprimes() of 3", deskWith(3).coprimes(), 2);
            due("coprimes() of 29989", deskWith(GREATEST_PRIME).coprimes(), 29988);
            due("coprimes() of 29929", deskWith(29929).coprimes(), 29756);
            due("coprimes() of 30000", deskWith(GREATEST).coprimes(), 8000);
        });
        test("9: the smallest prime above it, not itself", () -> {
            nextPrimeIs(1, 2);
            nextPrimeIs(2, 3);
            nextPrimeIs(3, 5);
            nextPrimeIs(29983, GREATEST_PRIME);
            nextPrimeIs(29988, GREATEST_PRIME);
        });
        test("9: the smallest prime above it, over the two widest gaps", () -> {
            nextPrimeIs(19608, 19609);
            nextPrimeIs(19609, 19661);
            nextPrimeIs(19660, 19661);
            nextPrimeIs(25471, 25523);
            nextPrimeIs(25522, 25523);
        });
        test("9: the smallest prime above it, where it lies above 30000", () -> {
            for (int n = GREATEST_PRIME; n <= GREATEST; n++) {
                nextPrimeIs(n, 30011);
            }
        });
    }

    private static void nextPrimeIs(int n, int want) {
        due("nextPrime() of " + n, deskWith(n).nextPrime(), want);
    }

    // ---- Promise 10

    private static void promiseTen() {
        test("10: base outside 0..30000: BAD", () -> {
            for (int n : NUMBERS) {
                for (int base : outside(0)) {
                    powerIs(n, base, 0, BAD);
                    powerIs(n, base, 1, BAD);
                    powerIs(n, base, GREATEST, BAD);
                }
            }
        });
        test("10: exponent outside 0..30000: BAD", () -> {
            for (int n : NUMBERS) {
                for (int exponent : outside(0)) {
                    powerIs(n, 0, exponent, BAD);
                    powerIs(n, 1, exponent, BAD);
                    powerIs(n, GREATEST, exponent, BAD);
                }
            }
        });
        test("10: base and exponent outside 0..30000: BAD", () -> {
            for (int n : NUMBERS) {
                for (int value : outside(0)) {
                    powerIs(n, value, value, BAD);
                    powerIs(n, value, -1, BAD);
                    powerIs(n, 30001, value, BAD);
                }
            }
        });
        test("10: base at both ends of 0..30000", () -> {
            powerIs(41, 0, 3, 0);
            powerIs(41, 1, 3, 1);
            powerIs(41, 29999, 3, 17);
            powerIs(41, GREATEST, 3, 35);
            powerIs(GREATEST, 29999, 3, 29999);
            powerIs(GREATEST, GREATEST, 3, 0);
            powerIs(29999, GREATEST, 3, 1);
        });
        test("10: exponent at both ends of 0..30000", () -> {
            powerIs(41, 6, 0, 1);
            powerIs(41, 6, 1, 6);
            powerIs(41, 6, 29999, 7);
            powerIs(41, 6, GREATEST, 1);
            powerIs(GREATEST, 29999, 29999, 29999);
            powerIs(GREATEST, 29999, GREATEST, 1);
            powerIs(GREATEST_PRIME, GREATEST, GREATEST, 25882);
        });
        test("10: 0 to the power of 0 is 1", () -> {
            for (int n : NUMBERS) {
                powerIs(n, 0, 0, n == 1 ? 0 : 1);
                powerIs(n, 0, 1, 0);
                powerIs(n, 0, GREATEST, 0);
            }
        });
        test("10: every rest on division by 1 is 0", () -> {
            int[] ends = {0, 1, 2, 29999, GREATEST};
            for (int base : ends) {
                for (int exponent : ends) {
                    powerIs(1, base, exponent, 0);
                    due("power(" + base + ", " + exponent + ") on a new object", new PrimeDesk().power(base, exponent), 0);
                }
            }
        });
    }

    private static void powerIs(int n, int base, int exponent, int want) {
        due("power(" + base + ", " + exponent + ") with " + n, deskWith(n).power(base, exponent), want);
    }

    // ---- Promise 11

    private static void promiseEleven() {
        test("11: base outside 1..30000: BAD", () -> {
            // A prime that divides none of these bases but 0: only the range speaks against the others.
            for (int base : outside(1)) {
                orderIs(12289, base, BAD);
            }
        });
        test("11: base at both ends of 1..30000", () -> {
            orderIs(41, 1, 1);
            orderIs(41, 2, 20);
            orderIs(41, 29999, 40);
            orderIs(41, GREATEST, 40);
            orderIs(29999, GREATEST, 1);
            orderIs(GREATEST, 29999, 2);
        });
        test("11: the smallest e from 1 on", () -> {
            for (int n : NUMBERS) {
                if (n > 1) {
                    orderIs(n, 1, 1);
                }
            }
            orderIs(2, 29999, 1);
            orderIs(7, 8, 1);
            orderIs(7, 6, 2);
            orderIs(4, 3, 2);
            // The greatest orders that there are: the number at hand less 1.
            orderIs(3, 2, 2);
            orderIs(29983, 5, 29982);
            orderIs(GREATEST_PRIME, 2, 29988);
        });
        test("11: the number at hand is 1: NONE", () -> {
            int[] bases = {1, 2, 29999, GREATEST};
            for (int base : bases) {
                due("order(" + base + ") on a new object", new PrimeDesk().order(base), NONE);
                orderIs(1, base, NONE);
            }
        });
        test("11: a prime factor in common with base: NONE", () -> {
            orderIs(2, 2, NONE);
            orderIs(2, GREATEST, NONE);
            orderIs(4, 2, NONE);
            orderIs(6, 3, NONE);
            // 4 and 3 are their own squares here, and never leave 1.
            orderIs(6, 4, NONE);
            orderIs(29929, 173, NONE);
            orderIs(29929, 29929, NONE);
            orderIs(29966, 14983, NONE);
            orderIs(GREATEST_PRIME, GREATEST_PRIME, NONE);
            orderIs(GREATEST, 5, NONE);
            orderIs(GREATEST, GREATEST, NONE);
        });
        test("11: in this order: BAD stands before NONE for the number 1", () -> {
            for (int base : outside(1)) {
                orderIs(1, base, BAD);
                due("order(" + base + ") on a new object", new PrimeDesk().order(base), BAD);
            }
        });
        test("11: in this order: BAD stands before NONE for a common prime factor", () -> {
            int[] numbers = {2, 4, 6, 12, 16384, GREATEST};
            int[] even = {0, -2, -30000, 30002, 60000, 65536, MAX - 1, MIN};
            for (int n : numbers) {
                for (int base : even) {
                    orderIs(n, base, BAD);
                }
            }
            orderIs(30, 30005, BAD);
            orderIs(GREATEST_PRIME, 0, BAD);
            orderIs(GREATEST_PRIME, -GREATEST_PRIME, BAD);
            orderIs(GREATEST_PRIME, 2 * GREATEST_PRIME, BAD);
        });
    }

    private static void orderIs(int n, int base, int want) {
        due("order(" + base + ") with " + n, deskWith(n).order(base), want);
    }

    // ---- Promise 12

    private static void promiseTwelve() {
        test("12: a outside 0..30000: BAD", () -> {
            // Every a has such an x for the number 2: only the range speaks against these.
            for (int a : outside(0)) {
                rootIs(2, a, BAD);
            }
            rootIs(7, 30002, BAD);
            rootIs(7, -7, BAD);
        });
        test("12: a at both ends of 0..30000", () -> {
            rootIs(73, 0, 0);
            rootIs(73, 1, 1);
            rootIs(73, 29999, 19);
            rootIs(73, GREATEST, 17);
            rootIs(GREATEST_PRIME, 0, 0);
            rootIs(GREATEST_PRIME, GREATEST, 3591);
        });
        test("12: the smallest x from 0 on", () -> {
            for (int p : PRIMES) {
                rootIs(p, 0, 0);
                rootIs(p, p, 0);
                rootIs(p, 1, 1);
            }
            // Of x and the number less x the smaller one.
            rootIs(7, 2, 3);
            rootIs(GREATEST_PRIME, 4, 2);
        });
        test("12: x below the number at hand, the greatest that is due", () -> {
            rootIs(2, 1, 1);
            rootIs(3, 1, 1);
            rootIs(5, 4, 2);
            rootIs(41, 20 * 20 % 41, 20);
            rootIs(GREATEST_PRIME, 14994 * 14994 % GREATEST_PRIME, 14994);
        });
        test("12: the number at hand is no prime: NONE", () -> {
            int[] squares = {0, 1, 4, 29929, GREATEST};
            for (int n : NO_PRIMES) {
                for (int a : squares) {
                    rootIs(n, a, NONE);
                }
            }
        });
        test("12: there is no such x: NONE", () -> {
            rootIs(3, 2, NONE);
            rootIs(3, 29999, NONE);
            rootIs(7, 3, NONE);
            rootIs(7, GREATEST, NONE);
            rootIs(41, 3, NONE);
            rootIs(GREATEST_PRIME, 2, NONE);
        });
        test("12: in this order: BAD stands before NONE for no prime", () -> {
            for (int n : NO_PRIMES) {
                for (int a : outside(0)) {
                    rootIs(n, a, BAD);
                }
            }
        });
        test("12: in this order: BAD stands before NONE for no such x", () -> {
            int[] numbers = {3, 5, 7, 11, 41, 29983, GREATEST_PRIME};
            for (int n : numbers) {
                boolean[] square = squaresOf(n);
                for (int away = 1; away <= 60; away++) {
                    if (!square[(GREATEST + away) % n]) {
                        rootIs(n, GREATEST + away, BAD);
                    }
                    if (!square[Math.floorMod(-away, n)]) {
                        rootIs(n, -away, BAD);
                    }
                }
                rootIs(n, MIN, BAD);
                rootIs(n, MAX, BAD);
            }
        });
    }

    private static void rootIs(int n, int a, int want) {
        due("root(" + a + ") with " + n, deskWith(n).root(a), want);
    }

    private static boolean[] squaresOf(int n) {
        boolean[] square = new boolean[n];
        for (long x = 0; x < n; x++) {
            square[(int) (x * x % n)] = true;
        }
        return square;
    }

    // ---- Promise 13

    private static void promiseThirteen() {
        test("13: the smallest number g above 0", () -> {
            generatorIs(3, 2);
            generatorIs(5, 2);
            generatorIs(7, 3);
            generatorIs(41, 6);
            generatorIs(29983, 5);
            generatorIs(GREATEST_PRIME, 2);
        });
        test("13: the smallest number g above 0, the greatest that is due", () -> generatorIs(5881, 31));
        test("13: 1 for the number 2", () -> generatorIs(2, 1));
        test("13: NONE if the number at hand is no prime", () -> {
            due("generator() of a new object", new PrimeDesk().generator(), NONE);
            for (int n : NO_PRIMES) {
                generatorIs(n, NONE);
            }
        });
    }

    private static void generatorIs(int n, int want) {
        due("generator() of " + n, deskWith(n).generator(), want);
    }

    // ---- Promise 14

    private static void promiseFourteen() {
        test("14: a take that is refused changes nothing", () -> {
            for (int value : outside(1)) {
                changesNothing("take(" + value + ")", desk -> due("take(" + value + ")", desk.take(value), false));
            }
        });
        test("14: a factor that there is none of changes nothing", () -> {
            int[] without = {MIN, -1, 14, 15, GREATEST, MAX};
            for (int k : without) {
                changesNothing("factor(" + k + ")", desk -> due("factor(" + k + ")", desk.factor(k), NONE));
            }
        });
        test("14: a power that answers BAD changes nothing", () -> {
            for (int value : outside(0)) {
                changesNothing("power(" + value + ", 7)", desk -> due("power(" + value + ", 7)", desk.power(value, 7), BAD));
                changesNothing("power(7, " + value + ")", desk -> due("power(7, " + value + ")", desk.power(7, value), BAD));
            }
            changesNothing("power(-1, 30001)", desk -> due("power(-1, 30001)", desk.power(-1, 30001), BAD));
        });
        test("14: an order that answers BAD changes nothing", () -> {
            for (int value : outside(1)) {
                changesNothing("order(" + value + ")", desk -> due("order(" + value + ")", desk.order(value), BAD));
            }
        });
        test("14: an order that answers NONE changes nothing", () -> {
            for (int n : NUMBERS) {
                leaves("order(" + n + ")", n, desk -> due("order(" + n + ") with " + n, desk.order(n), NONE));
            }
            leaves("order(30000)", 1, desk -> due("order(30000) with 1", desk.order(GREATEST), NONE));
            leaves("order(2)", GREATEST, desk -> due("order(2) with 30000", desk.order(2), NONE));
            leaves("order(30000)", 2, desk -> due("order(30000) with 2", desk.order(GREATEST), NONE));
        });
        test("14: a root that answers BAD changes nothing", () -> {
            for (int value : outside(0)) {
                changesNothing("root(" + value + ")", desk -> due("root(" + value + ")", desk.root(value), BAD));
            }
        });
        test("14: a root that answers NONE changes nothing", () -> {
            for (int n : NO_PRIMES) {
                leaves("root(4)", n, desk -> due("root(4) with " + n, desk.root(4), NONE));
            }
            leaves("root(2)", 3, desk -> due("root(2) with 3", desk.root(2), NONE));
            leaves("root(30000)", 7, desk -> due("root(30000) with 7", desk.root(GREATEST), NONE));
            leaves("root(2)", GREATEST_PRIME, desk -> due("root(2) with 29989", desk.root(2), NONE));
        });
        test("14: a generator that answers NONE changes nothing", () -> {
            for (int n : NO_PRIMES) {
                leaves("generator()", n, desk -> due("generator() of " + n, desk.generator(), NONE));
            }
        });
        test("14: refused calls of every kind one behind the other change nothing", () -> {
            for (int n : NO_PRIMES) {
                leaves("all of them", n, PrimeDeskBoundariesTest::refuseEveryKind);
            }
        });
    }

    /** For calls that are refused whatever number is at hand. */
    private static void changesNothing(String call, Consumer<PrimeDesk> refused) {
        int[] numbers = {1, 2, 6, 41, GREATEST};
        for (int n : numbers) {
            leaves(call, n, refused);
        }
        PrimeDesk untouched = new PrimeDesk();
        refused.accept(untouched);
        shows("after " + call + " on a new object", untouched, 1);
    }

    private static void leaves(String call, int n, Consumer<PrimeDesk> refused) {
        PrimeDesk desk = deskWith(n);
        refused.accept(desk);
        shows("after " + call + " with " + n, desk, n);
    }

    private static void refuseEveryKind(PrimeDesk desk) {
        due("take(0)", desk.take(0), false);
        due("take(30001)", desk.take(30001), false);
        due("factor(-1)", desk.factor(-1), NONE);
        due("factor(14)", desk.factor(14), NONE);
        due("power(30001, 2)", desk.power(30001, 2), BAD);
        due("power(2, 30001)", desk.power(2, 30001), BAD);
        due("order(0)", desk.order(0), BAD);
        due("root(-1)", desk.root(-1), BAD);
        due("root(0)", desk.root(0), NONE);
        due("generator()", desk.generator(), NONE);
    }

    // ---- What later calls show of the number at hand, each answer found as its definition says

    private static void shows(String when, PrimeDesk desk, int n) {
        Due want = Due.of(n);
        due(when + ": isPrime()", desk.isPrime(), want.divisors == 2);
        due(when + ": factors()", desk.factors(), want.factors.size());
        for (int k = 0; k < want.factors.size(); k++) {
            due(when + ": factor(" + k + ")", desk.factor(k), want.factors.get(k));
        }
        due(when + ": divisors()", desk.divisors(), want.divisors);
        due(when + ": sum()", desk.sum(), want.sum);
        due(when + ": coprimes()", desk.coprimes(), want.coprimes);
        due(when + ": nextPrime()", desk.nextPrime(), want.nextPrime);
        due(when + ": power(29999, 1)", desk.power(29999, 1), 29999 % n);
        due(when + ": order(7)", desk.order(7), want.orderOfSeven);
        due(when + ": root(1)", desk.root(1), want.divisors == 2 ? 1 : NONE);
        due(when + ": generator()", desk.generator(), want.generator);
    }

    private static final class Due {
        private static final Due[] KNOWN = new Due[GREATEST + 1];

        private final List<Integer> factors;
        private final int divisors;
        private final int sum;
        private final int coprimes;
        private final int nextPrime;
        private final int orderOfSeven;
        private final int generator;

        private Due(int n) {
            factors = primeFactorsOf(n);
            int dividing = 0;
            int total = 0;
            int apart = 0;
            for (int m = 1; m <= n; m++) {
                dividing += n % m == 0 ? 1 : 0;
                total += n % m == 0 ? m : 0;
                apart += gcd(m, n) == 1 ? 1 : 0;
            }
            divisors = dividing;
            sum = total;
            coprimes = apart;
            int above = n + 1;
            while (primeFactorsOf(above).size() != 1) {
                above++;
            }
            nextPrime = above;
            orderOfSeven = orderOf(7, n);
            generator = divisors == 2 ? generatorOf(n) : NONE;
        }

        private static Due of(int n) {
            if (KNOWN[n] == null) {
                KNOWN[n] = new Due(n);
            }
            return KNOWN[n];
        }
    }

    private static List<Integer> primeFactorsOf(int n) {
        List<Integer> found = new ArrayList<>();
        int rest = n;
        for (int p = 2; rest > 1; p++) {
            while (rest % p == 0) {
                found.add(p);
                rest /= p;
            }
        }
        return found;
    }

    private static int gcd(int a, int b) {
        return b == 0 ? a : gcd(b, a % b);
    }

    private static int orderOf(int base, int n) {
        if (n == 1 || gcd(base, n) != 1) {
            return NONE;
        }
        int e = 1;
        for (long rest = base % n; rest != 1; rest = rest * base % n) {
            e++;
        }
        return e;
    }

    private static int generatorOf(int p) {
        int g = 1;
        while (orderOf(g, p) != p - 1) {
            g++;
        }
        return g;
    }
}

/** Worked answers for each promise: ordinary inputs, the edges the document names, and wrong inputs. */
public final class PrimeDeskPromisesTest {
    private static final int MIN = Integer.MIN_VALUE;
    private static final int MAX = Integer.MAX_VALUE;
    private static final int BAD = -1;
    private static final int NONE = -2;

    private static int wrong = 0;

    public static void main(String[] args) {
        constants();
        newObject();
        take();
        isPrime();
        factors();
        factor();
        divisors();
        sum();
        coprimes();
        nextPrime();
        power();
        order();
        root();
        generator();
        refusedCallsChangeNothing();
        answersChangeNothing();
        objectsAreApart();
        System.out.println(wrong == 0 ? "all answers are as due" : wrong + " answers are not as due");
        if (wrong != 0) {
            System.exit(1);
        }
    }

    private static void due(String call, int got, int want) {
        if (got != want) {
            wrong++;
            System.out.println(call + " answered " + got + ", due is " + want);
        }
    }

    private static void due(String call, boolean got, boolean want) {
        due(call, got ? 1 : 0, want ? 1 : 0);
    }

    private static PrimeDesk deskWith(int n) {
        PrimeDesk desk = new PrimeDesk();
        due("take(" + n + ")", desk.take(n), true);
        return desk;
    }

    private static void constants() {
        due("BAD", PrimeDesk.BAD, BAD);
        due("NONE", PrimeDesk.NONE, NONE);
    }

    /** Every answer that tells 1 from the other numbers, so that it also shows that 1 is still at hand. */
    private static void showsOne(String when, PrimeDesk desk) {
        due(when + ": isPrime()", desk.isPrime(), false);
        due(when + ": factors()", desk.factors(), 0);
        due(when + ": factor(0)", desk.factor(0), NONE);
        due(when + ": divisors()", desk.divisors(), 1);
        due(when + ": sum()", desk.sum(), 1);
        due(when + ": coprimes()", desk.coprimes(), 1);
        due(when + ": nextPrime()", desk.nextPrime(), 2);
        due(when + ": power(0, 0)", desk.power(0, 0), 0);
        due(when + ": power(30000, 30000)", desk.power(30000, 30000), 0);
        due(when + ": order(1)", desk.order(1), NONE);
        due(when + ": root(0)", desk.root(0), NONE);
        due(when + ": generator()", desk.generator(), NONE);
    }

    /** The sum of the divisors and the next prime together tell 41 from every other number. */
    private static void showsFortyOne(String when, PrimeDesk desk) {
        due(when + ": isPrime()", desk.isPrime(), true);
        due(when + ": factor(0)", desk.factor(0), 41);
        due(when + ": sum()", desk.sum(), 42);
        due(when + ": nextPrime()", desk.nextPrime(), 43);
    }

    private static void newObject() {
        showsOne("new object", new PrimeDesk());
    }

    private static void take() {
        PrimeDesk desk = new PrimeDesk();
        due("take(30000)", desk.take(30000), true);
        due("sum() of 30000", desk.sum(), 96844);
        due("take(2)", desk.take(2), true);
        due("sum() of 2", desk.sum(), 3);
        due("take(2) again", desk.take(2), true);
        due("sum() of 2 again", desk.sum(), 3);
        due("take(1)", desk.take(1), true);
        showsOne("after take(1)", desk);
        int[] refused = {0, -1, -2, -41, -30000, MIN, MIN + 1, 30001, 30011, 65537, 65577, MAX};
        for (int n : refused) {
            due("take(" + n + ")", desk.take(n), false);
        }
        showsOne("after refused takes", desk);
    }

    private static void isPrime() {
        int[] primes = {2, 3, 5, 7, 11, 13, 41, 173, 12289, 29983, 29989};
        for (int n : primes) {
            due("isPrime() of " + n, deskWith(n).isPrime(), true);
        }
        // Squares of primes, numbers that pass Fermat's test, and products of two near primes.
        int[] others = {1, 4, 6, 9, 25, 49, 341, 561, 1387, 1729, 22201, 29341, 29929, 29999, 30000};
        for (int n : others) {
            due("isPrime() of " + n, deskWith(n).isPrime(), false);
        }
    }

    private static void factors() {
        int[] numbers = {1, 2, 3, 4, 6, 12, 16384, 24576, 19683, 27720, 29966, 29929, 29989, 30000};
        int[] counts = {0, 1, 1, 2, 2, 3, 14, 14, 9, 8, 2, 2, 1, 9};
        for (int i = 0; i < numbers.length; i++) {
            due("factors() of " + numbers[i], deskWith(numbers[i]).factors(), counts[i]);
        }
    }

    private static void factor() {
        factorsAre(1, new int[] {});
        factorsAre(2, new int[] {2});
        factorsAre(12, new int[] {2, 2, 3});
        factorsAre(16384, new int[] {2, 2, 2, 2, 2, 2, 2, 2, 2, 2, 2, 2, 2, 2});
        factorsAre(24576, new int[] {2, 2, 2, 2, 2, 2, 2, 2, 2, 2, 2, 2, 2, 3});
        factorsAre(27720, new int[] {2, 2, 2, 3, 3, 5, 7, 11});
        factorsAre(29929, new int[] {173, 173});
        factorsAre(29966, new int[] {2, 14983});
        factorsAre(29989, new int[] {29989});
        factorsAre(30000, new int[] {2, 2, 2, 2, 3, 5, 5, 5, 5});
    }

    private static void factorsAre(int n, int[] want) {
        PrimeDesk desk = deskWith(n);
        for (int k = 0; k < want.length; k++) {
            due("factor(" + k + ") of " + n, desk.factor(k), want[k]);
        }
        int[] without = {want.length, want.length + 1, 14, 15, 100, 30000, MAX, -1, -2, -14, MIN};
        for (int k : without) {
            due("factor(" + k + ") of " + n, desk.factor(k), NONE);
        }
    }

    private static void divisors() {
        int[] numbers = {1, 2, 3, 4, 6, 12, 16384, 19683, 27720, 29929, 29966, 29989, 29999, 30000};
        int[] counts = {1, 2, 2, 3, 4, 6, 15, 10, 96, 3, 4, 2, 4, 50};
        for (int i = 0; i < numbers.length; i++) {
            due("divisors() of " + numbers[i], deskWith(numbers[i]).divisors(), counts[i]);
        }
    }

    private static void sum() {
        int[] numbers = {1, 2, 3, 4, 6, 12, 16384, 19683, 27720, 29929, 29966, 29989, 29999, 30000};
        int[] sums = {1, 3, 4, 7, 12, 28, 32767, 29524, 112320, 30103, 44952, 29990, 30360, 96844};
        for (int i = 0; i < numbers.length; i++) {
            due("sum() of " + numbers[i], deskWith(numbers[i]).sum(), sums[i]);
        }
    }

    private static void coprimes() {
        int[] numbers = {1, 2, 3, 4, 6, 12, 16384, 19683, 27720, 29929, 29966, 29989, 29999, 30000};
        int[] counts = {1, 1, 2, 2, 2, 4, 8192, 13122, 5760, 29756, 14982, 29988, 29640, 8000};
        for (int i = 0; i < numbers.length; i++) {
            due("coprimes() of " + numbers[i], deskWith(numbers[i]).coprimes(), counts[i]);
        }
    }

    private static void nextPrime() {
        int[] numbers = {1, 2, 3, 4, 6, 7, 12, 16384, 27720, 29966, 29983, 29988, 29989, 30000};
        int[] primes = {2, 3, 5, 5, 7, 11, 13, 16411, 27733, 29983, 29989, 29989, 30011, 30011};
        for (int i = 0; i < numbers.length; i++) {
            due("nextPrime() of " + numbers[i], deskWith(numbers[i]).nextPrime(), primes[i]);
        }
    }

    private static void power() {
        powerIs(7, 10, 3, 6);
        powerIs(10, 7, 4, 1);
        powerIs(7, 0, 0, 1);
        powerIs(7, 0, 5, 0);
        powerIs(7, 0, 30000, 0);
        powerIs(1, 0, 0, 0);
        powerIs(1, 1, 0, 0);
        powerIs(1, 30000, 30000, 0);
        powerIs(2, 0, 0, 1);
        powerIs(2, 30000, 30000, 0);
        powerIs(2, 29999, 30000, 1);
        powerIs(30000, 30000, 0, 1);
        powerIs(30000, 30000, 1, 0);
        powerIs(30000, 7, 30000, 1);
        powerIs(30000, 29999, 29999, 29999);
        powerIs(30000, 29999, 30000, 1);
        powerIs(29989, 30000, 30000, 25882);
        powerIs(29989, 29988, 29999, 29988);
        int[] wrongs = {-1, -2, -30000, MIN, 30001, 65536, MAX};
        int[] numbers = {1, 2, 41, 30000};
        for (int n : numbers) {
            for (int w : wrongs) {
                powerIs(n, w, 0, BAD);
                powerIs(n, w, 5, BAD);
                powerIs(n, 0, w, BAD);
                powerIs(n, 5, w, BAD);
                powerIs(n, w, w, BAD);
            }
        }
    }

    private static void powerIs(int n, int base, int exponent, int want) {
        due("power(" + base + ", " + exponent + ") with " + n, deskWith(n).power(base, exponent), want);
    }

    private static void order() {
        orderIs(7, 3, 6);
        orderIs(7, 10, 6);
        orderIs(7, 1, 1);
        orderIs(7, 8, 1);
        orderIs(7, 7, NONE);
        orderIs(7, 14, NONE);
        orderIs(9, 2, 6);
        orderIs(9, 6, NONE);
        orderIs(1, 1, NONE);
        orderIs(1, 30000, NONE);
        orderIs(2, 1, 1);
        orderIs(2, 29999, 1);
        orderIs(2, 2, NONE);
        orderIs(2, 30000, NONE);
        orderIs(30000, 1, 1);
        orderIs(30000, 7, 100);
        orderIs(30000, 29999, 2);
        orderIs(30000, 15, NONE);
        orderIs(30000, 30000, NONE);
        orderIs(29989, 2, 29988);
        orderIs(29989, 29988, 2);
        orderIs(29989, 29989, NONE);
        orderIs(29989, 30000, 7497);
        orderIs(29999, 30000, 1);
        orderIs(29999, 2, 4940);
        int[] wrongs = {0, -1, -2, -30000, MIN, 30001, 65537, MAX};
        int[] numbers = {1, 2, 6, 41, 30000};
        for (int n : numbers) {
            for (int w : wrongs) {
                orderIs(n, w, BAD);
            }
        }
    }

    private static void orderIs(int n, int base, int want) {
        due("order(" + base + ") with " + n, deskWith(n).order(base), want);
    }

    private static void root() {
        rootIs(7, 0, 0);
        rootIs(7, 1, 1);
        rootIs(7, 2, 3);
        rootIs(7, 3, NONE);
        rootIs(7, 7, 0);
        rootIs(7, 9, 3);
        rootIs(2, 0, 0);
        rootIs(2, 1, 1);
        rootIs(2, 29999, 1);
        rootIs(2, 30000, 0);
        rootIs(3, 1, 1);
        rootIs(3, 2, NONE);
        rootIs(11, 30000, 5);
        rootIs(17, 30000, NONE);
        rootIs(29989, 0, 0);
        rootIs(29989, 29988, 11819);
        rootIs(29989, 29989, 0);
        rootIs(29989, 30000, 3591);
        rootIs(1, 0, NONE);
        rootIs(1, 30000, NONE);
        rootIs(4, 0, NONE);
        rootIs(9, 4, NONE);
        rootIs(30000, 0, NONE);
        rootIs(30000, 30000, NONE);
        int[] wrongs = {-1, -2, -30000, MIN, 30001, 65536, MAX};
        int[] numbers = {1, 2, 6, 41, 29989, 30000};
        for (int n : numbers) {
            for (int w : wrongs) {
                rootIs(n, w, BAD);
            }
        }
    }

    private static void rootIs(int n, int a, int want) {
        due("root(" + a + ") with " + n, deskWith(n).root(a), want);
    }

    private static void generator() {
        int[] numbers = {2, 3, 7, 23, 41, 71, 191, 409, 5881, 12289, 29989};
        int[] generators = {1, 2, 3, 5, 6, 7, 19, 21, 31, 11, 2};
        for (int i = 0; i < numbers.length; i++) {
            due("generator() of " + numbers[i], deskWith(numbers[i]).generator(), generators[i]);
        }
        // 4, 6, 9 and 29929 have numbers whose powers reach every coprime; the answer is NONE all the same.
        int[] others = {1, 4, 6, 9, 561, 29929, 30000};
        for (int n : others) {
            due("generator() of " + n, deskWith(n).generator(), NONE);
        }
    }

    private static void refusedCallsChangeNothing() {
        PrimeDesk desk = deskWith(41);
        int[] wrongs = {-1, MIN, 30001, MAX};
        for (int w : wrongs) {
            due("take(" + w + ")", desk.take(w), false);
            showsFortyOne("after take(" + w + ")", desk);
            due("power(" + w + ", 2)", desk.power(w, 2), BAD);
            showsFortyOne("after power(" + w + ", 2)", desk);
            due("power(2, " + w + ")", desk.power(2, w), BAD);
            showsFortyOne("after power(2, " + w + ")", desk);
            due("order(" + w + ")", desk.order(w), BAD);
            showsFortyOne("after order(" + w + ")", desk);
            due("root(" + w + ")", desk.root(w), BAD);
            showsFortyOne("after root(" + w + ")", desk);
            due("factor(" + w + ")", desk.factor(w), NONE);
            showsFortyOne("after factor(" + w + ")", desk);
        }
        due("take(0)", desk.take(0), false);
        due("order(0)", desk.order(0), BAD);
        due("order(41)", desk.order(41), NONE);
        due("root(3)", desk.root(3), NONE);
        showsFortyOne("after calls that answer NONE", desk);

        PrimeDesk composite = deskWith(30000);
        due("generator() of 30000", composite.generator(), NONE);
        due("root(4) of 30000", composite.root(4), NONE);
        due("order(2) of 30000", composite.order(2), NONE);
        due("factor(9) of 30000", composite.factor(9), NONE);
        due("sum() of 30000 after NONE", composite.sum(), 96844);
        due("factors() of 30000 after NONE", composite.factors(), 9);
    }

    private static void answersChangeNothing() {
        PrimeDesk desk = deskWith(41);
        for (int round = 0; round < 2; round++) {
            showsFortyOne("round " + round, desk);
            due("factors()", desk.factors(), 1);
            due("divisors()", desk.divisors(), 2);
            due("coprimes()", desk.coprimes(), 40);
            due("power(2, 10)", desk.power(2, 10), 40);
            due("order(2)", desk.order(2), 20);
            due("root(2)", desk.root(2), 17);
            due("generator()", desk.generator(), 6);
        }
        for (int i = 0; i < 400; i++) {
            due("order(6) again", desk.order(6), 40);
        }
        showsFortyOne("after many calls", desk);
    }

    private static void objectsAreApart() {
        PrimeDesk first = deskWith(41);
        PrimeDesk second = deskWith(30000);
        showsFortyOne("beside another object", first);
        due("sum() of the second object", second.sum(), 96844);
        showsOne("third object", new PrimeDesk());
    }
}

/**
 * Equations of degrees up to 4 with whole numbers: their answers that are fractions, or fractions
 * and square roots; which of them are real, between which whole numbers; how often each is one;
 * what is left over.
 */
public final class RadicalAnswers {
    private static final int TOP_POWER = 4;
    private static final int LIMIT = 20;
    // No number of a factor is above 89 (twice the equation's Mahler measure), so no b b - 4 a c
    // is above 89 * 89 + 4 * 20 * 20; its root is below 98.
    private static final int ROOT_BOUND = 1000;
    private static final int DIVISOR_STEPS = 100;

    /** A factor a x x + b x + c, or b x + c with a being 0. */
    private static final class Factor {
        private int times;
        private int a;
        private int b;
        private int c;
        private int outside;
        private int inside;

        private void become(int newA, int newB, int newC, int newTimes) {
            a = newA;
            b = newB;
            c = newC;
            times = newTimes;
            int under = a == 0 ? 0 : b * b - 4 * a * c;
            outside = greatestSquareDividing(under);
            inside = outside == 0 ? 0 : under / (outside * outside);
        }

        private boolean isLinear() {
            return a == 0;
        }

        private boolean isReal() {
            return inside >= 0;
        }

        // The answers are (middle() + the root of under()) / below() and
        // (middle() - the root of under()) / below(), a linear one's with under() being 0.
        private int middle() {
            return a == 0 ? -c : -b;
        }

        private int under() {
            return outside * outside * inside;
        }

        private int below() {
            return a == 0 ? b : 2 * a;
        }

        private boolean standsBefore(Factor that) {
            if (isLinear() != that.isLinear()) {
                return isLinear();
            }
            if (isLinear()) {
                return middle() * that.below() < that.middle() * below();
            }
            if (a != that.a) {
                return a < that.a;
            }
            return b != that.b ? b < that.b : c < that.c;
        }
    }

    private final int[] numbers;
    private final int[] rest;
    private final int[] draft;
    private final Factor[] found;
    private int foundCount;
    private int commonNumber;
    private boolean isSplit;

    public RadicalAnswers() {
        numbers = new int[TOP_POWER + 1];
        rest = new int[TOP_POWER + 1];
        draft = new int[TOP_POWER + 1];
        found = new Factor[TOP_POWER];
        for (int i = 0; i < found.length; i++) {
            found[i] = new Factor();
        }
    }

    public boolean put(int power, int v) throws IndexOutOfBoundsException, IllegalArgumentException {
        checkPower(power);
        if (!isInLimits(v)) {
            throw new IllegalArgumentException("not -20 .. 20");
        }
        if (numbers[power] == v) {
            return false;
        }
        numbers[power] = v;
        isSplit = false;
        return true;
    }

    public int at(int power) throws IndexOutOfBoundsException {
        checkPower(power);
        return numbers[power];
    }

    public boolean change(int how) throws IllegalArgumentException {
        if (how < -1 || how > 2) {
            throw new IllegalArgumentException("no such change");
        }
        int degree = degreeOf(numbers);
        if (degree < 0) {
            return false;
        }
        draftChange(how, degree);
        for (int number : draft) {
            if (!isInLimits(number)) {
                return false;
            }
        }
        System.arraycopy(draft, 0, numbers, 0, numbers.length);
        isSplit = false;
        return true;
    }

    public int factors() throws IllegalStateException {
        split();
        return foundCount;
    }

    public int factor(int k, int what)
            throws IllegalStateException, IndexOutOfBoundsException, IllegalArgumentException {
        split();
        Factor one = numbered(k);
        switch (what) {
            case 0:
                return one.isLinear() ? 1 : 2;
            case 1:
                return one.times;
            case 2:
                return one.a;
            case 3:
                return one.b;
            case 4:
                return one.c;
            case 5:
                return one.inside;
            default:
                throw new IllegalArgumentException("no such what");
        }
    }

    public int content() throws IllegalStateException {
        split();
        return commonNumber;
    }

    public int left(int power) throws IllegalStateException, IndexOutOfBoundsException {
        split();
        checkPower(power);
        return rest[power];
    }

    public int answer(int k, int which, int part)
            throws IllegalStateException, IndexOutOfBoundsException, IllegalArgumentException {
        split();
        Factor one = numbered(k);
        if (which < 0 || which > 1 || part < 0 || part > 1) {
            throw new IllegalArgumentException("no such part of an answer");
        }
        int above = which == 0 ? one.middle() : one.outside;
        int below = one.below();
        int common = commonDivisor(above, below);
        if (common == 0) {
            return 0;
        }
        return (part == 0 ? above : below) / common;
    }

    public int real() throws IllegalStateException {
        split();
        // Different factors share no answer, because none of them is a product.
        int sum = 0;
        for (int i = 0; i < foundCount && i < found.length; i++) {
            if (found[i].isLinear()) {
                sum++;
            } else if (found[i].isReal()) {
                sum += 2;
            }
        }
        return sum;
    }

    public int floor(int k, boolean upper)
            throws IllegalStateException, IndexOutOfBoundsException, IllegalArgumentException {
        split();
        Factor one = numbered(k);
        checkReal(one);
        int below = one.below();
        if (below < 1) {
            return 0;
        }
        int root = wholeRoot(one.under());
        if (upper || one.isLinear()) {
            return Math.floorDiv(one.middle() + root, below);
        }
        // A quadratic factor's root is never whole, so less the root lies above less (root + 1).
        return Math.floorDiv(one.middle() - root - 1, below);
    }

    public int compare(int k, boolean upper, int m, boolean other)
            throws IllegalStateException, IndexOutOfBoundsException, IllegalArgumentException {
        split();
        Factor one = numbered(k);
        Factor two = numbered(m);
        checkReal(one);
        checkReal(two);
        // The sign of the difference, times both numbers below (which are above 0).
        long whole = (long) one.middle() * two.below() - (long) two.middle() * one.below();
        long times = upper ? two.below() : -two.below();
        long less = other ? -one.below() : one.below();
        return signOfSum(whole, times, one.under(), less, two.under());
    }

    public void clear() {
        for (int i = 0; i < numbers.length; i++) {
            numbers[i] = 0;
        }
        isSplit = false;
    }

    private static void checkPower(int power) {
        if (power < 0 || power > TOP_POWER) {
            throw new IndexOutOfBoundsException("no such power");
        }
    }

    private static void checkReal(Factor one) {
        if (!one.isReal()) {
            throw new IllegalArgumentException("not real");
        }
    }

    private static boolean isInLimits(int v) {
        return v >= -LIMIT && v <= LIMIT;
    }

    private Factor numbered(int k) {
        if (k < 0 || k >= foundCount || k >= found.length) {
            throw new IndexOutOfBoundsException("no such factor");
        }
        return found[k];
    }

    private void draftChange(int how, int degree) {
        System.arraycopy(numbers, 0, draft, 0, draft.length);
        if (how == 2) {
            for (int i = 0; i <= degree && degree < draft.length; i++) {
                draft[i] = numbers[degree - i];
            }
        } else if (how == 0) {
            for (int i = 1; i < draft.length; i += 2) {
                draft[i] = -draft[i];
            }
        } else {
            draftShift(how);
        }
    }

    // Horner's scheme, once for each power: the remainders are the numbers behind the shift.
    private void draftShift(int by) {
        for (int i = 0; i < TOP_POWER; i++) {
            for (int j = TOP_POWER - 1; j >= i; j--) {
                draft[j] += by * draft[j + 1];
            }
        }
    }

    private void split() {
        int degree = degreeOf(numbers);
        if (degree < 0) {
            throw new IllegalStateException("the equation is 0");
        }
        if (isSplit) {
            return;
        }
        foundCount = 0;
        takeOutContent(degree);
        takeOutLinearFactors();
        takeOutQuadraticFactors();
        isSplit = true;
    }

    private void takeOutContent(int degree) {
        int common = 0;
        for (int number : numbers) {
            common = commonDivisor(common, number);
        }
        commonNumber = numbers[degree] < 0 ? -common : common;
        for (int i = 0; i < rest.length; i++) {
            rest[i] = commonNumber == 0 ? 0 : numbers[i] / commonNumber;
        }
    }

    // A factor's highest and lowest numbers divide the equation's, so they keep its limits.
    // Multiples of a factor need no care: rest has no common divisor, so none of them divides it.
    private void takeOutLinearFactors() {
        for (int b = 1; b <= LIMIT; b++) {
            int degree = degreeOf(rest);
            if (degree > 0 && rest[degree] % b == 0) {
                for (int c = -LIMIT; c <= LIMIT; c++) {
                    takeOut(0, b, c);
                }
            }
        }
    }

    // Of two quadratic factors one has an a whose square isn't above the highest number; once it
    // is out, the rest is the other one. Every answer is nearer to 0 than 1 + LIMIT / highest
    // (Cauchy's bound), and -b / a is the sum of two of them.
    private void takeOutQuadraticFactors() {
        int highest = degreeOf(rest) == 4 ? rest[4] : 0;
        int lowest = rest[0];
        for (int a = 1; a <= LIMIT && a * a <= highest; a++) {
            if (highest % a != 0) {
                continue;
            }
            int reach = 2 * a + 2 * LIMIT * a / highest;
            for (int c = -LIMIT; c <= LIMIT; c++) {
                if (c == 0 || lowest % c != 0) {
                    continue;
                }
                for (int b = -reach; b <= reach; b++) {
                    takeOut(a, b, c);
                }
            }
        }
        // Linear factors are out already, so a rest of degree 2 is no product of them.
        if (degreeOf(rest) == 2) {
            takeOut(rest[2], rest[1], rest[0]);
        }
    }

    private void takeOut(int a, int b, int c) {
        int times = 0;
        while (times < TOP_POWER && divideRest(a, b, c)) {
            times++;
        }
        if (times > 0) {
            addFactor(a, b, c, times);
        }
    }

    private boolean divideRest(int a, int b, int c) {
        int size = a == 0 ? 1 : 2;
        int highest = a == 0 ? b : a;
        int degree = degreeOf(rest);
        if (highest == 0 || degree < size) {
            return false;
        }
        System.arraycopy(rest, 0, draft, 0, draft.length);
        // The quotient's numbers come to stand where the dividend's were, size powers too high.
        for (int i = degree; i >= size; i--) {
            if (draft[i] % highest != 0) {
                return false;
            }
            draft[i] /= highest;
            draft[i - size] -= draft[i] * c;
            if (size == 2) {
                draft[i - 1] -= draft[i] * b;
            }
        }
        if (draft[0] != 0 || draft[size - 1] != 0) {
            return false;
        }
        for (int i = 0; i < rest.length; i++) {
            rest[i] = i + size <= degree ? draft[i + size] : 0;
        }
        return true;
    }

    private void addFactor(int a, int b, int c, int times) {
        if (foundCount >= found.length) {
            return;
        }
        Factor added = found[foundCount];
        added.become(a, b, c, times);
        int place = foundCount;
        while (place > 0 && added.standsBefore(found[place - 1])) {
            found[place] = found[place - 1];
            place--;
        }
        found[place] = added;
        foundCount++;
    }

    /** The degree, or -1 of 0. */
    private static int degreeOf(int[] row) {
        int degree = row.length - 1;
        while (degree >= 0 && row[degree] == 0) {
            degree--;
        }
        return degree;
    }

    private static int commonDivisor(int one, int two) {
        int x = Math.abs(one);
        int y = Math.abs(two);
        for (int i = 0; i < DIVISOR_STEPS && y != 0; i++) {
            int remainder = x % y;
            x = y;
            y = remainder;
        }
        return x;
    }

    /** The greatest whole number whose square divides this one; 0 of 0. */
    private static int greatestSquareDividing(int number) {
        int size = number < 0 ? -number : number;
        int greatest = 0;
        for (int i = 1; i <= ROOT_BOUND && i * i <= size; i++) {
            if (size % (i * i) == 0) {
                greatest = i;
            }
        }
        return greatest;
    }

    private static int wholeRoot(int number) {
        int root = 0;
        while (root < ROOT_BOUND && (root + 1) * (root + 1) <= number) {
            root++;
        }
        return root;
    }

    /** The sign of whole + one times the root of m + two times the root of n. */
    private static int signOfSum(long whole, long one, long m, long two, long n) {
        long rootsSign = signOfRoots(one, m, two, n);
        // Squares that keep their signs are in the order of their roots: that leaves one root.
        long squares = signedSquare(whole) + rootsSign * (one * one * m + two * two * n);
        return signOfRoots(squares, 1, 2 * rootsSign * one * two, m * n);
    }

    /** The sign of one times the root of m + two times the root of n. */
    private static int signOfRoots(long one, long m, long two, long n) {
        long sum = signedSquare(one) * m + signedSquare(two) * n;
        return sum < 0 ? -1 : sum > 0 ? 1 : 0;
    }

    private static long signedSquare(long number) {
        return number < 0 ? -number * number : number * number;
    }
}

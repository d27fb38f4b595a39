import java.math.BigDecimal;
import java.math.MathContext;
import java.math.RoundingMode;

/**
 * What the terms ask, looked at for many equations: a splitting with these properties is the only one,
 * so nothing here needs to know how the class finds it.
 */
public final class ManyEquationsTest {
    private static final MathContext EXACT = new MathContext(60);
    private static final int WIDE = 100;

    private static long seed = 12345;
    private static int withFactors = 0;
    private static int withTwoQuadratics = 0;

    public static void main(String[] args) {
        smallEquations();
        anyEquations();
        productsOfTwoQuadratics();
        linearTimesCubic();
        Check.due("many have factors", withFactors > 5000, true);
        Check.due("many have two quadratic factors", withTwoQuadratics > 2000, true);
        Check.end();
    }

    private static int next(int bound) {
        seed = seed * 6364136223846793005L + 1442695040888963407L;
        return (int) ((seed >>> 33) % bound);
    }

    private static int within(int limit) {
        return next(2 * limit + 1) - limit;
    }

    private static void smallEquations() {
        for (int i = 1; i < 3125; i++) {
            look(i % 5 - 2, i / 5 % 5 - 2, i / 25 % 5 - 2, i / 125 % 5 - 2, i / 625 - 2);
        }
    }

    private static void anyEquations() {
        for (int i = 0; i < 3000; i++) {
            look(within(20), within(20), within(20), within(20), within(20));
        }
    }

    private static void productsOfTwoQuadratics() {
        for (int i = 0; i < 300000; i++) {
            int[] one = {within(7), within(12), 1 + next(5)};
            int[] two = {within(5), within(9), within(4)};
            lookIfInLimits(product(one, two));
        }
    }

    private static void linearTimesCubic() {
        for (int i = 0; i < 20000; i++) {
            int[] one = {within(6), 1 + next(5)};
            int[] two = {within(8), within(12), within(12), within(5)};
            lookIfInLimits(product(one, two));
        }
    }

    private static void lookIfInLimits(int[] row) {
        for (int number : row) {
            if (Math.abs(number) > 20) {
                return;
            }
        }
        look(row);
    }

    private static int[] product(int[] one, int[] two) {
        int[] row = new int[one.length + two.length - 1];
        for (int i = 0; i < one.length; i++) {
            for (int j = 0; j < two.length; j++) {
                row[i + j] += one[i] * two[j];
            }
        }
        return row;
    }

    private static int degreeOf(int[] row) {
        int degree = row.length - 1;
        while (degree >= 0 && row[degree] == 0) {
            degree--;
        }
        return degree;
    }

    private static int commonDivisor(int[] row) {
        int common = 0;
        for (int number : row) {
            for (int y = Math.abs(number); y != 0; ) {
                int r = common % y;
                common = y;
                y = r;
            }
        }
        return common;
    }

    private static void look(int... numbers) {
        if (degreeOf(numbers) < 0) {
            return;
        }
        RadicalAnswers x = Check.of(numbers);
        String name = java.util.Arrays.toString(numbers);
        int quadratics = 0;
        int realOnes = 0;
        for (int k = 0; k < x.factors(); k++) {
            lookAtFactor(name, x, k);
            quadratics += x.factor(k, 0) - 1;
            realOnes += x.factor(k, 0) == 1 ? 1 : x.factor(k, 5) > 0 ? 2 : 0;
        }
        Check.due(name + ": real()", x.real(), realOnes);
        withFactors += x.factors() > 0 ? 1 : 0;
        withTwoQuadratics += quadratics == 2 ? 1 : 0;
        lookAtProduct(name, x, numbers);
        lookAtLeft(name, x);
        lookAtOrder(name, x);
        lookAtReals(name, x);
    }

    private static int[] factorOf(RadicalAnswers x, int k) {
        int c = x.factor(k, 4);
        int b = x.factor(k, 3);
        return x.factor(k, 0) == 1 ? new int[] {c, b} : new int[] {c, b, x.factor(k, 2)};
    }

    private static boolean isSquare(int number) {
        int root = 0;
        while (root * root < number) {
            root++;
        }
        return root * root == number;
    }

    private static void lookAtFactor(String name, RadicalAnswers x, int k) {
        int[] row = factorOf(x, k);
        String here = name + ": factor " + k + ": ";
        Check.due(here + "no common divisor", commonDivisor(row), 1);
        Check.due(here + "highest above 0", row[row.length - 1] > 0, true);
        Check.due(here + "multiplicity above 0", x.factor(k, 1) > 0, true);
        int pAbove = x.answer(k, 0, 0);
        int pBelow = x.answer(k, 0, 1);
        int qAbove = x.answer(k, 1, 0);
        int qBelow = x.answer(k, 1, 1);
        int d = x.factor(k, 5);
        Check.due(here + "P in lowest terms", pBelow > 0 && commonDivisor(new int[] {pAbove, pBelow}) == 1, true);
        Check.due(here + "Q in lowest terms", qBelow > 0 && commonDivisor(new int[] {qAbove, qBelow}) == 1, true);
        if (row.length == 2) {
            Check.due(here + "a, D, Q are 0", x.factor(k, 2) == 0 && d == 0 && qAbove == 0, true);
            Check.due(here + "P", pAbove * row[1] + pBelow * row[0], 0);
            return;
        }
        int under = row[1] * row[1] - 4 * row[2] * row[0];
        Check.due(here + "no product", isSquare(under), false);
        Check.due(here + "P", pAbove * 2 * row[2] + pBelow * row[1], 0);
        Check.due(here + "Q above 0", qAbove > 0, true);
        Check.due(here + "Q", 4L * qAbove * qAbove * d * row[2] * row[2], (long) under * qBelow * qBelow);
        Check.due(here + "D isn't 1, 0", d != 1 && d != 0, true);
        for (int i = 2; i * i <= Math.abs(d); i++) {
            Check.due(here + "D divided by a square", d % (i * i) == 0, false);
        }
    }

    private static void lookAtProduct(String name, RadicalAnswers x, int[] numbers) {
        int[] row = {x.content()};
        for (int k = 0; k < x.factors(); k++) {
            for (int i = 0; i < x.factor(k, 1); i++) {
                row = product(row, factorOf(x, k));
            }
        }
        row = product(row, new int[] {x.left(0), x.left(1), x.left(2), x.left(3), x.left(4)});
        for (int i = 0; i < row.length; i++) {
            Check.due(name + ": product at " + i, row[i], i < numbers.length ? numbers[i] : 0);
        }
    }

    private static void lookAtLeft(String name, RadicalAnswers x) {
        int[] row = {x.left(0), x.left(1), x.left(2), x.left(3), x.left(4)};
        int degree = degreeOf(row);
        Check.due(name + ": left, highest above 0", row[degree] > 0, true);
        Check.due(name + ": left, no common divisor", commonDivisor(row), 1);
        Check.due(name + ": left, degree 0, 3 or 4", degree == 0 || degree == 3 || degree == 4, true);
        if (degree == 0) {
            return;
        }
        Check.due(name + ": left has an answer", hasFractionAnswer(row, degree), false);
        if (degree == 4) {
            Check.due(name + ": left has a quadratic factor", isProductOfQuadratics(row), false);
        }
    }

    private static boolean hasFractionAnswer(int[] row, int degree) {
        for (int b = 1; b <= 20; b++) {
            for (int c = -20; c <= 20; c++) {
                if (valueTimes(row, degree, c, b) == 0) {
                    return true;
                }
            }
        }
        return false;
    }

    /** The value at c / b, times b to the degree. */
    private static long valueTimes(int[] row, int degree, long c, long b) {
        long value = 0;
        long power = 1;
        for (int i = degree; i >= 0; i--) {
            value = value * c + row[i] * power;
            power *= b;
        }
        return value;
    }

    private static boolean isProductOfQuadratics(int[] row) {
        for (int a = 1; a <= row[4]; a++) {
            for (int c = -20; c <= 20; c++) {
                if (row[4] % a == 0 && c != 0 && row[0] % c == 0 && isProductWith(row, a, c)) {
                    return true;
                }
            }
        }
        return false;
    }

    private static boolean isProductWith(int[] row, int a, int c) {
        int otherA = row[4] / a;
        int otherC = row[0] / c;
        for (int b = -WIDE; b <= WIDE; b++) {
            int rest = row[3] - b * otherA;
            if (rest % a == 0) {
                int otherB = rest / a;
                if (b * otherC + c * otherB == row[1] && a * otherC + b * otherB + c * otherA == row[2]) {
                    return true;
                }
            }
        }
        return false;
    }

    private static void lookAtOrder(String name, RadicalAnswers x) {
        for (int k = 1; k < x.factors(); k++) {
            int[] one = factorOf(x, k - 1);
            int[] two = factorOf(x, k);
            boolean inOrder = one.length < two.length;
            if (one.length == 2 && two.length == 2) {
                inOrder = -one[0] / (double) one[1] < -two[0] / (double) two[1];
            } else if (one.length == 3 && two.length == 3) {
                inOrder = one[2] < two[2] || one[2] == two[2]
                    && (one[1] < two[1] || one[1] == two[1] && one[0] < two[0]);
            }
            Check.due(name + ": factor " + k + " in order", inOrder, true);
        }
    }

    /** The answer to sixty digits, or null if it isn't real. */
    private static BigDecimal valueOf(RadicalAnswers x, int k, boolean upper) {
        int[] row = factorOf(x, k);
        if (row.length == 2) {
            return BigDecimal.valueOf(-row[0]).divide(BigDecimal.valueOf(row[1]), EXACT);
        }
        int under = row[1] * row[1] - 4 * row[2] * row[0];
        if (under < 0) {
            return null;
        }
        BigDecimal root = BigDecimal.valueOf(under).sqrt(EXACT);
        BigDecimal above = BigDecimal.valueOf(-row[1]).add(upper ? root : root.negate());
        return above.divide(BigDecimal.valueOf(2 * row[2]), EXACT);
    }

    private static void lookAtReals(String name, RadicalAnswers x) {
        BigDecimal[] values = new BigDecimal[2 * x.factors()];
        for (int i = 0; i < values.length; i++) {
            values[i] = valueOf(x, i / 2, i % 2 == 1);
        }
        for (int i = 0; i < values.length; i++) {
            lookAtFloor(name, x, i, values[i]);
            for (int j = 0; j < values.length; j++) {
                lookAtPair(name, x, i, j, values);
            }
        }
    }

    private static void lookAtFloor(String name, RadicalAnswers x, int i, BigDecimal value) {
        int k = i / 2;
        boolean upper = i % 2 == 1;
        String call = name + ": floor(" + k + ", " + upper + ")";
        if (value == null) {
            Check.dueThrow(call, Check.ARGUMENT, () -> x.floor(k, upper));
        } else {
            Check.due(call, x.floor(k, upper), value.setScale(0, RoundingMode.FLOOR).intValueExact());
        }
    }

    private static void lookAtPair(String name, RadicalAnswers x, int i, int j, BigDecimal[] values) {
        int k = i / 2;
        boolean upper = i % 2 == 1;
        int m = j / 2;
        boolean other = j % 2 == 1;
        String call = name + ": compare(" + k + ", " + upper + ", " + m + ", " + other + ")";
        if (values[i] == null || values[j] == null) {
            Check.dueThrow(call, Check.ARGUMENT, () -> x.compare(k, upper, m, other));
        } else {
            Check.due(call, x.compare(k, upper, m, other), values[i].compareTo(values[j]));
        }
    }
}

/** The sentences of the document's section "Terms", each by the boundary cases that it names. */
public final class TermsTest {
    private static final int[] NO_POWER = {-1, 5, Integer.MIN_VALUE, Integer.MAX_VALUE};
    private static final int[] NO_NUMBER = {-21, 21, Integer.MIN_VALUE, Integer.MAX_VALUE};

    public static void main(String[] args) {
        powersAndNumbers();
        allZeroAtFirst();
        justNotZero();
        multiplicity();
        withoutCommonDivisor();
        highestAboveZero();
        noProductOfLinearOnes();
        leftOfDegreeZero();
        leftOfDegreeThreeOrFour();
        nothingLeftOfFarProducts();
        leftIsSuchAPolynomialToo();
        linearOnesFirst();
        lesserAnswersFirst();
        lesserAThenBThenC();
        linearAnswer();
        quadraticAnswers();
        dividedByNoSquare();
        belowZeroIfNotReal();
        lowestTerms();
        noSuchFactor();
        noSuchPower();
        equationIsZero();
        firstOfSeveral();
        firstOfSeveralNotReal();
        degreeZero();
        Check.end();
    }

    // "The EQUATION is a polynomial in x with powers 0 .. 4 and whole numbers -20 .. 20"
    private static void powersAndNumbers() {
        for (int power = 0; power <= 4; power++) {
            int p = power;
            RadicalAnswers x = new RadicalAnswers();
            for (int v : new int[] {-20, 20, -19, 19}) {
                Check.due("put(" + p + ", " + v + ")", x.put(p, v), true);
                Check.due("put(" + p + ", " + v + "): at(" + p + ")", x.at(p), v);
            }
            for (int v : NO_NUMBER) {
                Check.dueRefused("put(" + p + ", " + v + ")", Check.ARGUMENT, x, () -> x.put(p, v) ? 1 : 0);
            }
        }
        RadicalAnswers full = Check.of(20, 20, 20, 20, 20);
        Check.dueNumbers("all 20", full, 20, 20, 20, 20, 20);
        for (int power : NO_POWER) {
            Check.dueRefused("put(" + power + ", 1)", Check.INDEX, full, () -> full.put(power, 1) ? 1 : 0);
        }
    }

    // "all 0 at first"
    private static void allZeroAtFirst() {
        Check.dueNumbers("new", new RadicalAnswers(), 0, 0, 0, 0, 0);
    }

    // "If it isn't 0 it is, in one way alone, .."
    private static void justNotZero() {
        for (int power = 0; power <= 4; power++) {
            for (int v = -1; v <= 1; v += 2) {
                String call = v + " at " + power + " alone";
                RadicalAnswers x = new RadicalAnswers();
                x.put(power, v);
                Check.due(call + ": content()", x.content(), v);
                Check.due(call + ": factors()", x.factors(), power == 0 ? 0 : 1);
                Check.due(call + ": real()", x.real(), power == 0 ? 0 : 1);
                Check.dueLeft(call, x, 1);
                if (power > 0) {
                    Check.dueFactor(call, x, 0, 1, power, 0, 1, 0, 0);
                }
                x.put(power, 0);
                Check.dueThrow(call + ", put to 0: factors()", Check.STATE, () -> x.factors());
            }
        }
    }

    // "FACTORS, each perhaps more than once (its MULTIPLICITY)"
    private static void multiplicity() {
        Check.dueFactor("x - 1 once", Check.of(-1, 1), 0, 1, 1, 0, 1, -1, 0);
        Check.dueFactor("x - 1 twice", Check.of(1, -2, 1), 0, 1, 2, 0, 1, -1, 0);
        Check.dueFactor("x - 1 three times", Check.of(-1, 3, -3, 1), 0, 1, 3, 0, 1, -1, 0);
        Check.dueFactor("x - 1 four times", Check.of(1, -4, 6, -4, 1), 0, 1, 4, 0, 1, -1, 0);
        Check.dueFactor("x x + x + 1 once", Check.of(1, 1, 1), 0, 2, 1, 1, 1, 1, -3);
        RadicalAnswers twice = Check.of(1, 2, 3, 2, 1);
        Check.due("x x + x + 1 twice: factors()", twice.factors(), 1);
        Check.dueFactor("x x + x + 1 twice", twice, 0, 2, 2, 1, 1, 1, -3);
        RadicalAnswers pairs = Check.of(4, -4, -3, 2, 1);
        Check.due("(x + 2) twice, (x - 1) twice: factors()", pairs.factors(), 2);
        Check.dueFactor("(x + 2) twice", pairs, 0, 1, 2, 0, 1, 2, 0);
        Check.dueFactor("(x - 1) twice", pairs, 1, 1, 2, 0, 1, -1, 0);
        RadicalAnswers uneven = Check.of(0, -1, 3, -3, 1);
        Check.dueFactor("x once", uneven, 0, 1, 1, 0, 1, 0, 0);
        Check.dueFactor("then x - 1 three times", uneven, 1, 1, 3, 0, 1, -1, 0);
    }

    // "with whole numbers without a common divisor"
    private static void withoutCommonDivisor() {
        RadicalAnswers linear = Check.of(-20, 20);
        Check.due("20 x - 20: content()", linear.content(), 20);
        Check.dueFactor("20 x - 20", linear, 0, 1, 1, 0, 1, -1, 0);
        RadicalAnswers quadratic = Check.of(20, 10, 10);
        Check.due("10 (x x + x + 2): content()", quadratic.content(), 10);
        Check.dueFactor("10 (x x + x + 2)", quadratic, 0, 2, 1, 1, 1, 2, -7);
        // Two of the three numbers have a common divisor, all three have none.
        Check.due("6 x x + 10 x + 15: content()", Check.of(15, 10, 6).content(), 1);
        Check.dueFactor("6 x x + 10 x + 15", Check.of(15, 10, 6), 0, 2, 1, 6, 10, 15, -65);
        RadicalAnswers product = Check.of(2, 8, 8);
        Check.due("2 (2 x + 1) twice: content()", product.content(), 2);
        Check.dueFactor("2 (2 x + 1) twice", product, 0, 1, 2, 0, 2, 1, 0);
    }

    // "the highest one above 0"
    private static void highestAboveZero() {
        Check.dueFactor("-x + 1", Check.of(1, -1), 0, 1, 1, 0, 1, -1, 0);
        Check.dueFactor("-x x - 1", Check.of(-1, 0, -1), 0, 2, 1, 1, 0, 1, -1);
        Check.dueFactor("-20 x x + 20 x + 19", Check.of(19, 20, -20), 0, 2, 1, 20, -20, -19, 30);
        RadicalAnswers both = Check.of(2, 0, -3, 0, 1);
        RadicalAnswers less = Check.of(-2, 0, 3, 0, -1);
        for (int k = 0; k < 3; k++) {
            for (int what = 0; what <= 5; what++) {
                Check.due("less the same: factor(" + k + ", " + what + ")", less.factor(k, what), both.factor(k, what));
            }
        }
        Check.due("content()", both.content(), 1);
        Check.due("less the same: content()", less.content(), -1);
    }

    // "a QUADRATIC one not being a product of LINEAR ones"
    private static void noProductOfLinearOnes() {
        Check.due("x x - 3: factors()", Check.of(-3, 0, 1).factor(0, 0), 2);
        Check.due("x x - 4: factors()", Check.of(-4, 0, 1).factors(), 2);
        Check.due("x x - 4: degree", Check.of(-4, 0, 1).factor(0, 0), 1);
        Check.due("x x - 5: degree", Check.of(-5, 0, 1).factor(0, 0), 2);
        Check.due("x x + x - 20: degree", Check.of(-20, 1, 1).factor(0, 0), 1);
        Check.due("x x + x - 19: degree", Check.of(-19, 1, 1).factor(0, 0), 2);
        Check.due("4 x x + 4 x + 1: degree", Check.of(1, 4, 4).factor(0, 0), 1);
        Check.due("4 x x + 4 x + 2: degree", Check.of(2, 4, 4).factor(0, 0), 2);
        Check.due("20 x x - 9 x + 1: degree", Check.of(1, -9, 20).factor(0, 0), 1);
        Check.due("20 x x - 9 x - 1: degree", Check.of(-1, -9, 20).factor(0, 0), 2);
    }

    // "what is LEFT is .. of degree 0 (1 then)"
    private static void leftOfDegreeZero() {
        for (int v : new int[] {-20, -1, 1, 20}) {
            Check.dueLeft(v + "", Check.of(v), 1);
            Check.dueLeft(v + " x", Check.of(0, v), 1);
            Check.dueLeft(v + " x x + 19", Check.of(19, 0, v), 1);
            Check.dueLeft(v + " (x + 1)(x x + 1)", Check.of(v, v, v, v), 1);
            Check.dueLeft(v + " (x to the 4 + x x + 1)", Check.of(v, 0, v, 0, v), 1);
        }
    }

    // "what is LEFT is .. of degree .. 3 or 4, that has none of these as a factor"
    private static void leftOfDegreeThreeOrFour() {
        Check.dueLeft("x x x - 7", Check.of(-7, 0, 0, 1), -7, 0, 0, 1);
        Check.dueLeft("x x x - 8", Check.of(-8, 0, 0, 1), 1);
        Check.dueLeft("x x x - 9", Check.of(-9, 0, 0, 1), -9, 0, 0, 1);
        Check.dueLeft("x to the 4 + 3", Check.of(3, 0, 0, 0, 1), 3, 0, 0, 0, 1);
        Check.dueLeft("x to the 4 + 4", Check.of(4, 0, 0, 0, 1), 1);
        Check.dueLeft("x to the 4 + 5", Check.of(5, 0, 0, 0, 1), 5, 0, 0, 0, 1);
        Check.dueLeft("x to the 4 - 15", Check.of(-15, 0, 0, 0, 1), -15, 0, 0, 0, 1);
        Check.dueLeft("x to the 4 - 16", Check.of(-16, 0, 0, 0, 1), 1);
        Check.dueLeft("x (x x x - 2)", Check.of(0, -2, 0, 0, 1), -2, 0, 0, 1);
        Check.due("x (x x x - 2): factors()", Check.of(0, -2, 0, 0, 1).factors(), 1);
        Check.dueLeft("all 20 with 19 at 0", Check.of(19, 20, 20, 20, 20), 19, 20, 20, 20, 20);
    }

    // The same sentence, where two quadratic factors have the greatest b for their a of all equations.
    private static void nothingLeftOfFarProducts() {
        int[][] first = {{1, -3, 1}, {1, 3, 1}, {2, -6, 3}, {3, 7, 5}, {1, 4, 2}, {1, -3, 1}};
        int[][] second = {{11, 13, 10}, {11, -14, 11}, {6, 8, 5}, {6, -8, 3}, {7, -8, -1}, {11, 13, 8}};
        for (int i = 0; i < first.length; i++) {
            int[] product = new int[5];
            for (int j = 0; j < 3; j++) {
                for (int k = 0; k < 3; k++) {
                    product[4 - j - k] += first[i][j] * second[i][k];
                }
            }
            RadicalAnswers x = Check.of(product);
            Check.due("far product " + i + ": factors()", x.factors(), 2);
            Check.dueLeft("far product " + i, x, 1);
            for (int j = 0; j < 3; j++) {
                Check.due("far product " + i + ": factor(0, " + (2 + j) + ")", x.factor(0, 2 + j), first[i][j]);
                Check.due("far product " + i + ": factor(1, " + (2 + j) + ")", x.factor(1, 2 + j), second[i][j]);
            }
        }
    }

    // "what is LEFT is such a polynomial too" (no common divisor, the highest number above 0)
    private static void leftIsSuchAPolynomialToo() {
        RadicalAnswers cubic = Check.of(20, 0, 0, -10);
        Check.due("-10 (x x x - 2): content()", cubic.content(), -10);
        Check.dueLeft("-10 (x x x - 2)", cubic, -2, 0, 0, 1);
        RadicalAnswers quartic = Check.of(-20, 0, 0, 0, -20);
        Check.due("-20 (x to the 4 + 1): content()", quartic.content(), -20);
        Check.dueLeft("-20 (x to the 4 + 1)", quartic, 1, 0, 0, 0, 1);
        // Its numbers may well be above 20.
        Check.dueLeft("(x + 1)(20 x x x - 40 x x + 20 x - 19)", Check.of(-19, 1, -20, -20, 20), -19, 20, -40, 20);
        Check.dueLeft("less the same", Check.of(19, -1, 20, 20, -20), -19, 20, -40, 20);
    }

    // "FACTORS have numbers 0, 1 ..: LINEAR ones first"
    private static void linearOnesFirst() {
        RadicalAnswers far = Check.of(20, -20, 1, -1);
        Check.dueFactor("(x - 1)(x x + 20)", far, 0, 1, 1, 0, 1, -1, 0);
        Check.dueFactor("(x - 1)(x x + 20)", far, 1, 2, 1, 1, 0, 20, -5);
        // The quadratic one has the lesser answers.
        RadicalAnswers answers = Check.of(-5, -14, -2, 1);
        Check.dueFactor("(x - 5)(x x + 3 x + 1)", answers, 0, 1, 1, 0, 1, -5, 0);
        Check.dueFactor("(x - 5)(x x + 3 x + 1)", answers, 1, 2, 1, 1, 3, 1, 5);
        // The quadratic one has the lesser highest number.
        RadicalAnswers highest = Check.of(2, -8, -1, 4);
        Check.dueFactor("(4 x - 1)(x x - 2)", highest, 0, 1, 1, 0, 4, -1, 0);
        Check.dueFactor("(4 x - 1)(x x - 2)", highest, 1, 2, 1, 1, 0, -2, 2);
        RadicalAnswers three = Check.of(6, 4, -5, -2, 1);
        Check.dueFactor("(x + 1)(x - 3)(x x - 2)", three, 0, 1, 1, 0, 1, 1, 0);
        Check.dueFactor("(x + 1)(x - 3)(x x - 2)", three, 1, 1, 1, 0, 1, -3, 0);
        Check.dueFactor("(x + 1)(x - 3)(x x - 2)", three, 2, 2, 1, 1, 0, -2, 2);
    }

    // "those with lesser answers first"
    private static void lesserAnswersFirst() {
        RadicalAnswers close = Check.of(6, -17, 12);
        Check.dueFactor("2/3 ..", close, 0, 1, 1, 0, 3, -2, 0);
        Check.dueFactor(".. before 3/4", close, 1, 1, 1, 0, 4, -3, 0);
        RadicalAnswers negative = Check.of(6, 17, 12);
        Check.dueFactor("-3/4 ..", negative, 0, 1, 1, 0, 4, 3, 0);
        Check.dueFactor(".. before -2/3", negative, 1, 1, 1, 0, 3, 2, 0);
        RadicalAnswers below = Check.of(-1, 1, 20);
        Check.dueFactor("-1/4 ..", below, 0, 1, 1, 0, 4, 1, 0);
        Check.dueFactor(".. before 1/5", below, 1, 1, 1, 0, 5, -1, 0);
        RadicalAnswers wide = Check.of(0, -20, 1, 1);
        Check.dueFactor("-5 ..", wide, 0, 1, 1, 0, 1, 5, 0);
        Check.dueFactor(".. before 0 ..", wide, 1, 1, 1, 0, 1, 0, 0);
        Check.dueFactor(".. before 4", wide, 2, 1, 1, 0, 1, -4, 0);
        // How often each is one does not matter.
        RadicalAnswers twice = Check.of(0, 0, 0, 3, -1);
        Check.dueFactor("0 three times ..", twice, 0, 1, 3, 0, 1, 0, 0);
        Check.dueFactor(".. before 3 once", twice, 1, 1, 1, 0, 1, -3, 0);
    }

    // "QUADRATIC ones with lesser a first, then lesser b, then lesser c"
    private static void lesserAThenBThenC() {
        // (x x + 5 x + 5)(4 x x - x - 1): the lesser a has the greater b and c.
        RadicalAnswers byA = Check.of(-5, -10, 14, 19, 4);
        Check.dueFactor("a 1 ..", byA, 0, 2, 1, 1, 5, 5, 5);
        Check.dueFactor(".. before a 4", byA, 1, 2, 1, 4, -1, -1, 17);
        // (x x - x + 4)(x x + x - 3): the lesser b has the greater c.
        RadicalAnswers byB = Check.of(-12, 7, 0, 0, 1);
        Check.dueFactor("b -1 ..", byB, 0, 2, 1, 1, -1, 4, -15);
        Check.dueFactor(".. before b 1", byB, 1, 2, 1, 1, 1, -3, 13);
        RadicalAnswers byC = Check.of(2, 3, 4, 2, 1);
        Check.dueFactor("c 1 ..", byC, 0, 2, 1, 1, 1, 1, -3);
        Check.dueFactor(".. before c 2", byC, 1, 2, 1, 1, 1, 2, -7);
        RadicalAnswers negative = Check.of(2, 0, -3, 0, -2);
        Check.dueFactor("(x x + 2)(2 x x - 1), negative", negative, 0, 2, 1, 1, 0, 2, -2);
        Check.dueFactor("(x x + 2)(2 x x - 1), negative", negative, 1, 2, 1, 2, 0, -1, 2);
    }

    // "A LINEAR one's ANSWER is the fraction that makes it 0."
    private static void linearAnswer() {
        for (int b = 1; b <= 20; b++) {
            for (int c = -20; c <= 20; c++) {
                RadicalAnswers x = Check.of(c, b);
                String call = b + " x + " + c;
                Check.due(call + ": 0 at its answer", b * x.answer(0, 0, 0) + c * x.answer(0, 0, 1), 0);
                Check.due(call + ": below above 0", x.answer(0, 0, 1) > 0, true);
            }
        }
    }

    // "A QUADRATIC one has two, P + Q times the square root of D and P - Q times it: P and Q, above 0, are
    // fractions" (P of an answer may be below 0, Q never)
    private static void quadraticAnswers() {
        Check.dueAnswer("x x - 2 x - 1", Check.of(-1, -2, 1), 0, 1, 1, 1, 1);
        Check.dueAnswer("x x + 2 x - 1", Check.of(-1, 2, 1), 0, -1, 1, 1, 1);
        Check.dueAnswer("-x x + 2 x + 1", Check.of(1, 2, -1), 0, 1, 1, 1, 1);
        Check.dueAnswer("-x x - 2 x + 1", Check.of(1, -2, -1), 0, -1, 1, 1, 1);
        Check.dueAnswer("x x - 7", Check.of(-7, 0, 1), 0, 0, 1, 1, 1);
        Check.dueAnswer("-20 x x - 19 x - 20", Check.of(-20, -19, -20), 0, -19, 40, 1, 40);
        Check.dueAnswer("-20 x x + 19 x - 20", Check.of(-20, 19, -20), 0, 19, 40, 1, 40);
        // The greatest and the least P of all.
        Check.dueAnswer("(x + 1)(20 x x - 39 x + 20)", Check.of(20, -19, -19, 20), 1, 39, 40, 1, 40);
        Check.dueAnswer("(x - 1)(20 x x + 39 x + 20)", Check.of(-20, -19, 19, 20), 1, -39, 40, 1, 40);
        // The greatest number above in a Q: the root of 1323 is 21 times that of 3.
        Check.dueAnswer("19 x x + 11 x + 19", Check.of(19, 11, 19), 0, -11, 38, 21, 38);
        Check.due("19 x x + 11 x + 19: D", Check.of(19, 11, 19).factor(0, 5), -3);
    }

    // "D is a whole number, not 1, that no square above 1 divides"
    private static void dividedByNoSquare() {
        int[] c = {2, 3, 5, 6, 7, 8, 10, 11, 12, 13, 14, 15, 17, 18, 19, 20};
        int[] d = {2, 3, 5, 6, 7, 2, 10, 11, 3, 13, 14, 15, 17, 2, 19, 5};
        int[] q = {1, 1, 1, 1, 1, 2, 1, 1, 2, 1, 1, 1, 1, 3, 1, 2};
        for (int i = 0; i < c.length; i++) {
            String call = "x x - " + c[i];
            Check.due(call + ": D", Check.of(-c[i], 0, 1).factor(0, 5), d[i]);
            Check.dueAnswer(call, Check.of(-c[i], 0, 1), 0, 0, 1, q[i], 1);
            call = "x x + " + c[i];
            Check.due(call + ": D", Check.of(c[i], 0, 1).factor(0, 5), -d[i]);
            Check.dueAnswer(call, Check.of(c[i], 0, 1), 0, 0, 1, q[i], 1);
        }
        Check.due("x x + x - 11 (45): D", Check.of(-11, 1, 1).factor(0, 5), 5);
        Check.dueAnswer("x x + x - 11 (45)", Check.of(-11, 1, 1), 0, -1, 2, 3, 2);
        Check.due("20 x x - 20 x - 19 (64 * 30): D", Check.of(-19, -20, 20).factor(0, 5), 30);
        Check.dueAnswer("20 x x - 20 x - 19 (64 * 30)", Check.of(-19, -20, 20), 0, 1, 2, 1, 5);
        // The greatest and the least D of all.
        Check.due("20 x x + 19 x - 20: D", Check.of(-20, 19, 20).factor(0, 5), 1961);
        Check.due("20 x x + x + 20: D", Check.of(20, 1, 20).factor(0, 5), -1599);
    }

    // "(below 0, if they aren't real)"
    private static void belowZeroIfNotReal() {
        Check.due("x x + 1: D", Check.of(1, 0, 1).factor(0, 5), -1);
        Check.due("x x + 4: D", Check.of(4, 0, 1).factor(0, 5), -1);
        Check.due("x x + 16: D", Check.of(16, 0, 1).factor(0, 5), -1);
        Check.dueAnswer("x x + 16", Check.of(16, 0, 1), 0, 0, 1, 4, 1);
        Check.due("x x + 3 x + 1 (5): D", Check.of(1, 3, 1).factor(0, 5), 5);
        Check.due("x x + 3 x + 3 (-3): D", Check.of(3, 3, 1).factor(0, 5), -3);
        Check.due("4 x x + 4 x + 2 (-1): D", Check.of(2, 4, 4).factor(0, 5), -1);
        Check.dueAnswer("4 x x + 4 x + 2", Check.of(2, 4, 4), 0, -1, 2, 1, 2);
    }

    // "Fractions are told in lowest terms, above (0), below (1), below above 0."
    private static void lowestTerms() {
        Check.dueAnswer("0 x's answer", Check.of(0, 20), 0, 0, 1, 0, 1);
        Check.dueAnswer("-20 x + 15", Check.of(15, -20), 0, 3, 4, 0, 1);
        Check.dueAnswer("-20 x - 15", Check.of(-15, -20), 0, -3, 4, 0, 1);
        Check.dueAnswer("20 x - 20", Check.of(-20, 20), 0, 1, 1, 0, 1);
        Check.dueAnswer("x + 20", Check.of(20, 1), 0, -20, 1, 0, 1);
        Check.dueAnswer("-x + 20", Check.of(20, -1), 0, 20, 1, 0, 1);
        Check.dueAnswer("2 x x - 4 x + 1", Check.of(1, -4, 2), 0, 1, 1, 1, 2);
        Check.dueAnswer("3 x x + 2 x - 2", Check.of(-2, 2, 3), 0, -1, 3, 1, 3);
        Check.dueAnswer("x x - 5 x + 1", Check.of(1, -5, 1), 0, 5, 2, 1, 2);
    }

    private static int[] withFactors(int count) {
        switch (count) {
            case 0:
                return new int[] {-2, 0, 0, 1};
            case 1:
                return new int[] {-2, 0, 1};
            case 2:
                return new int[] {6, 0, -5, 0, 1};
            case 3:
                return new int[] {0, 0, -1, 0, 1};
            default:
                return new int[] {4, 0, -5, 0, 1};
        }
    }

    // "IndexOutOfBoundsException: no such FACTOR"
    private static void noSuchFactor() {
        for (int count = 0; count <= 4; count++) {
            int[] numbers = withFactors(count);
            RadicalAnswers x = Check.of(numbers);
            String call = count + " factors: ";
            Check.due(call + "factors()", x.factors(), count);
            for (int k = 0; k < count; k++) {
                Check.due(call + "factor(" + k + ", 1) is one", x.factor(k, 1) > 0, true);
                Check.due(call + "answer(" + k + ", 0, 1) is one", x.answer(k, 0, 1) > 0, true);
                Check.due(call + "floor(" + k + ", ..) is one", x.floor(k, false) <= x.floor(k, true), true);
                Check.due(call + "compare(" + k + ", ..) is one", x.compare(k, true, k, true), 0);
            }
            for (int k : new int[] {-1, count, count + 1, Integer.MIN_VALUE, Integer.MAX_VALUE}) {
                Check.dueRefused(call + "factor(" + k + ", 0)", Check.INDEX, numbers, one -> one.factor(k, 0));
                Check.dueRefused(call + "answer(" + k + ", 0, 0)", Check.INDEX, numbers, one -> one.answer(k, 0, 0));
                Check.dueRefused(call + "floor(" + k + ", true)", Check.INDEX, numbers, one -> one.floor(k, true));
                Check.dueRefused(call + "floor(" + k + ", false)", Check.INDEX, numbers, one -> one.floor(k, false));
                Check.dueRefused(call + "compare(k, 0)", Check.INDEX, numbers, one -> one.compare(k, true, 0, true));
                Check.dueRefused(call + "compare(0, k)", Check.INDEX, numbers, one -> one.compare(0, true, k, true));
                Check.dueRefused(call + "compare(k, k)", Check.INDEX, numbers, one -> one.compare(k, true, k, false));
            }
        }
        // An equation with fewer factors than the one before it forgets the others.
        RadicalAnswers fewer = Check.of(withFactors(4));
        Check.due("4 factors", fewer.factors(), 4);
        fewer.put(0, 5);
        Check.due("none", fewer.factors(), 0);
        Check.dueRefused("factor(0, 0) of none", Check.INDEX, fewer, () -> fewer.factor(0, 0));
    }

    // "IndexOutOfBoundsException: no such .. power"
    private static void noSuchPower() {
        RadicalAnswers zero = new RadicalAnswers();
        RadicalAnswers x = Check.of(1, 2, 3, 4, 5);
        for (int power : NO_POWER) {
            Check.dueRefused("0: put(" + power + ", 0)", Check.INDEX, zero, () -> zero.put(power, 0) ? 1 : 0);
            Check.dueRefused("0: at(" + power + ")", Check.INDEX, zero, () -> zero.at(power));
            Check.dueRefused("put(" + power + ", 0)", Check.INDEX, x, () -> x.put(power, 0) ? 1 : 0);
            Check.dueRefused("at(" + power + ")", Check.INDEX, x, () -> x.at(power));
            Check.dueRefused("left(" + power + ")", Check.INDEX, x, () -> x.left(power));
        }
        for (int power = 0; power <= 4; power++) {
            Check.due("at(" + power + ")", x.at(power), power + 1);
            Check.due("left(" + power + ")", x.left(power), power + 1);
        }
    }

    private static void dueAllState(String when, RadicalAnswers x) {
        Check.dueRefused(when + ": factors()", Check.STATE, x, () -> x.factors());
        Check.dueRefused(when + ": factor(0, 0)", Check.STATE, x, () -> x.factor(0, 0));
        Check.dueRefused(when + ": content()", Check.STATE, x, () -> x.content());
        Check.dueRefused(when + ": left(0)", Check.STATE, x, () -> x.left(0));
        Check.dueRefused(when + ": answer(0, 0, 0)", Check.STATE, x, () -> x.answer(0, 0, 0));
        Check.dueRefused(when + ": real()", Check.STATE, x, () -> x.real());
        Check.dueRefused(when + ": floor(0, true)", Check.STATE, x, () -> x.floor(0, true));
        Check.dueRefused(when + ": compare(0, .., 0, ..)", Check.STATE, x, () -> x.compare(0, true, 0, true));
    }

    // "IllegalStateException: the EQUATION is 0"
    private static void equationIsZero() {
        dueAllState("new", new RadicalAnswers());
        RadicalAnswers put = Check.of(1, 1);
        Check.due("x + 1: factors()", put.factors(), 1);
        put.put(1, 0);
        Check.due("1: factors()", put.factors(), 0);
        put.put(0, 0);
        dueAllState("put back to 0", put);
        RadicalAnswers cleared = Check.of(1, 1);
        Check.due("x + 1: real()", cleared.real(), 1);
        cleared.clear();
        dueAllState("cleared", cleared);
        // The calls that don't name it are none of these.
        Check.due("0: put(0, 0)", cleared.put(0, 0), false);
        Check.due("0: at(0)", cleared.at(0), 0);
        Check.due("0: change(1)", cleared.change(1), false);
        cleared.clear();
        Check.due("0: put(3, 1)", cleared.put(3, 1), true);
        Check.due("x x x: factors()", cleared.factors(), 1);
    }

    // "Of several the one that stands first behind "throws" is thrown; nothing changes."
    private static void firstOfSeveral() {
        int[] zero = {};
        int[] x = {-2, 0, 1};
        for (int far : new int[] {-1, 6, Integer.MIN_VALUE, Integer.MAX_VALUE}) {
            for (int v : NO_NUMBER) {
                String call = "put(" + far + ", " + v + ")";
                Check.dueRefused("0: " + call, Check.INDEX, zero, one -> one.put(far, v) ? 1 : 0);
                Check.dueRefused(call, Check.INDEX, x, one -> one.put(far, v) ? 1 : 0);
            }
            Check.dueRefused("0: left(" + far + ")", Check.STATE, zero, one -> one.left(far));
            Check.dueRefused("0: factor(far, 0)", Check.STATE, zero, one -> one.factor(far, 0));
            Check.dueRefused("0: factor(0, far)", Check.STATE, zero, one -> one.factor(0, far));
            Check.dueRefused("0: factor(far, far)", Check.STATE, zero, one -> one.factor(far, far));
            Check.dueRefused("factor(far, far)", Check.INDEX, x, one -> one.factor(far, far));
            Check.dueRefused("factor(1, far)", Check.INDEX, x, one -> one.factor(1, far));
            Check.dueRefused("factor(0, far)", Check.ARGUMENT, x, one -> one.factor(0, far));
            Check.dueRefused("0: answer(far, far, far)", Check.STATE, zero, one -> one.answer(far, far, far));
            Check.dueRefused("0: answer(0, far, 0)", Check.STATE, zero, one -> one.answer(0, far, 0));
            Check.dueRefused("0: answer(0, 0, far)", Check.STATE, zero, one -> one.answer(0, 0, far));
            Check.dueRefused("answer(far, far, far)", Check.INDEX, x, one -> one.answer(far, far, far));
            Check.dueRefused("answer(1, far, 0)", Check.INDEX, x, one -> one.answer(1, far, 0));
            Check.dueRefused("answer(1, 0, far)", Check.INDEX, x, one -> one.answer(1, 0, far));
            Check.dueRefused("answer(0, far, 0)", Check.ARGUMENT, x, one -> one.answer(0, far, 0));
            Check.dueRefused("answer(0, 0, far)", Check.ARGUMENT, x, one -> one.answer(0, 0, far));
            Check.dueRefused("0: floor(far, true)", Check.STATE, zero, one -> one.floor(far, true));
            Check.dueRefused("0: compare(far, far)", Check.STATE, zero, one -> one.compare(far, true, far, true));
            Check.dueRefused("0: compare(far, 0)", Check.STATE, zero, one -> one.compare(far, true, 0, true));
            Check.dueRefused("0: compare(0, far)", Check.STATE, zero, one -> one.compare(0, true, far, true));
        }
    }

    // The same sentence, where one of the exceptions is of answers that aren't real.
    private static void firstOfSeveralNotReal() {
        int[] x = {-2, 0, -1, 0, 1};
        Check.due("(x x - 2)(x x + 1): D", Check.of(x).factor(0, 5), 2);
        Check.due("(x x - 2)(x x + 1): D", Check.of(x).factor(1, 5), -1);
        for (int none : new int[] {-1, 2, Integer.MIN_VALUE, Integer.MAX_VALUE}) {
            for (boolean upper : new boolean[] {false, true}) {
                Check.dueRefused("not real, none", Check.INDEX, x, one -> one.compare(1, upper, none, true));
                Check.dueRefused("none, not real", Check.INDEX, x, one -> one.compare(none, upper, 1, true));
                Check.dueRefused("real, none", Check.INDEX, x, one -> one.compare(0, upper, none, true));
                Check.dueRefused("none, real", Check.INDEX, x, one -> one.compare(none, upper, 0, true));
            }
        }
        for (boolean upper : new boolean[] {false, true}) {
            Check.dueRefused("floor, not real", Check.ARGUMENT, x, one -> one.floor(1, upper));
            Check.dueRefused("real, not real", Check.ARGUMENT, x, one -> one.compare(0, upper, 1, true));
            Check.dueRefused("not real, real", Check.ARGUMENT, x, one -> one.compare(1, upper, 0, false));
            Check.dueRefused("not real, itself", Check.ARGUMENT, x, one -> one.compare(1, upper, 1, upper));
        }
    }

    // An equation of degree 0 isn't 0: it has a CONTENT and no FACTOR, and 1 is LEFT.
    private static void degreeZero() {
        for (int v : new int[] {-20, -1, 1, 20}) {
            RadicalAnswers x = Check.of(v);
            Check.due(v + ": factors()", x.factors(), 0);
            Check.due(v + ": content()", x.content(), v);
            Check.due(v + ": real()", x.real(), 0);
            Check.dueLeft(v + "", x, 1);
            Check.dueRefused(v + ": factor(0, 0)", Check.INDEX, x, () -> x.factor(0, 0));
            Check.dueRefused(v + ": factor(0, 6)", Check.INDEX, x, () -> x.factor(0, 6));
            Check.dueRefused(v + ": answer(0, 2, 2)", Check.INDEX, x, () -> x.answer(0, 2, 2));
            Check.dueRefused(v + ": floor(0, true)", Check.INDEX, x, () -> x.floor(0, true));
            Check.dueRefused(v + ": compare(0, .., 0, ..)", Check.INDEX, x, () -> x.compare(0, true, 0, true));
            Check.dueRefused(v + ": left(5)", Check.INDEX, x, () -> x.left(5));
        }
    }
}

/** The sentences of promises 1 to 13, each by the boundary cases that it names. */
public final class BoundariesTest {
    private static final int[] BAD_HOW = {-2, 3, Integer.MIN_VALUE, Integer.MAX_VALUE};
    private static final boolean[] BOTH = {false, true};

    public static void main(String[] args) {
        newObject();
        putWhetherAnother();
        putOutside();
        atThatNumber();
        changeJustFits();
        changeMinusX();
        changeTurnedAbout();
        changeOfDegreeZero();
        changeOfZero();
        changeAnother();
        changeRefusedLaterFits();
        factorsHowMany();
        factorEachWhat();
        factorAnotherWhat();
        contentSigns();
        leftAtEachPower();
        answerOfLinear();
        answerAnother();
        realDifferent();
        floorOfLinear();
        floorOfQuadratic();
        floorNotReal();
        compareWithItself();
        compareLinear();
        compareClosest();
        compareAllPairs();
        compareNotReal();
        clearAll();
        fiveHundredTwelveCalls();
        Check.end();
    }

    // Promise 1: "0."
    private static void newObject() {
        RadicalAnswers x = new RadicalAnswers();
        Check.dueState("new", x, "at 0 0 0 0 0");
        Check.dueThrow("new: factors()", Check.STATE, () -> x.factors());
        RadicalAnswers used = Check.of(1, 2, 3, 4, 5);
        Check.due("the used one", used.content(), 1);
        Check.dueState("new beside a used one", new RadicalAnswers(), "at 0 0 0 0 0");
    }

    // Promise 2: "The number at a power: whether it is another one."
    private static void putWhetherAnother() {
        for (int power = 0; power <= 4; power++) {
            RadicalAnswers x = new RadicalAnswers();
            int[] row = {0, 20, 20, -20, -20, 0, 0, 1, -1, -1, 0};
            int before = 0;
            for (int v : row) {
                Check.due("put(" + power + ", " + v + ") behind " + before, x.put(power, v), v != before);
                Check.due("put(" + power + ", " + v + "): at", x.at(power), v);
                before = v;
            }
            Check.dueNumbers("put and back", x);
        }
        RadicalAnswers same = Check.of(-2, 0, 1);
        String before = Check.stateOf(same);
        Check.due("the same number", same.put(2, 1), false);
        Check.dueState("the same number", same, before);
    }

    // Promise 2: "IllegalArgumentException: it isn't -20 .. 20."
    private static void putOutside() {
        int[] zero = {};
        int[] full = {-20, 20, -20, 20, -20};
        for (int power = 0; power <= 4; power++) {
            int p = power;
            for (int v : new int[] {-21, 21, -40, 40, Integer.MIN_VALUE, Integer.MAX_VALUE}) {
                String call = "put(" + p + ", " + v + ")";
                Check.dueRefused("0: " + call, Check.ARGUMENT, zero, one -> one.put(p, v) ? 1 : 0);
                Check.dueRefused(call, Check.ARGUMENT, full, one -> one.put(p, v) ? 1 : 0);
            }
        }
    }

    // Promise 3: "That number."
    private static void atThatNumber() {
        for (int power = 0; power <= 4; power++) {
            for (int v = -20; v <= 20; v++) {
                RadicalAnswers x = new RadicalAnswers();
                x.put(power, v);
                for (int other = 0; other <= 4; other++) {
                    Check.due("at(" + other + ")", x.at(other), other == power ? v : 0);
                }
            }
        }
        RadicalAnswers x = Check.of(20, -20);
        for (int power : new int[] {-1, 5}) {
            Check.dueRefused("at(" + power + ")", Check.INDEX, x, () -> x.at(power));
        }
    }

    // Promise 4: "x becomes x and 1 (by 1), x less 1 (-1) ..; false, and nothing changes, if some number would
    // not be -20 .. 20": one number of the changed ones is just 20, then just 21, at each power.
    private static void changeJustFits() {
        shifts(new int[] {10, 10}, new int[] {20, 10});
        shifts(new int[] {11, 10}, null);
        shifts(new int[] {0, 20}, new int[] {20, 20});
        shifts(new int[] {1, 20}, null);
        shifts(new int[] {0, 10, 5}, new int[] {15, 20, 5});
        shifts(new int[] {0, 11, 5}, null);
        shifts(new int[] {0, -10, 5, 5}, new int[] {0, 15, 20, 5});
        shifts(new int[] {0, -10, 6, 5}, null);
        shifts(new int[] {0, 0, -20, 4, 4}, new int[] {-12, -12, 16, 20, 4});
        shifts(new int[] {0, 0, -20, 5, 4}, null);
        // The greatest highest number that can fit, at 20 and -20 at once, and beside it.
        shifts(new int[] {0, 0, 0, -20, 10}, new int[] {-10, -20, 0, 20, 10});
        shifts(new int[] {0, 0, 0, -19, 10}, null);
        shifts(new int[] {0, -1, 0, -20, 10}, null);
        shifts(new int[] {0, 0, 0, -20, 11}, null);
        // All that is outside is put right by no other number.
        shifts(new int[] {20, -20, 20, -20, 20}, null);
        shifts(new int[] {-20, 20}, new int[] {0, 20});
        shifts(new int[] {20, -20}, new int[] {0, -20});
    }

    /** This change, and the three like it: less the same, and both with x turned about 0. */
    private static void shifts(int[] from, int[] to) {
        for (int sign = -1; sign <= 1; sign += 2) {
            shift(times(from, sign, false), 1, times(to, sign, false));
            shift(times(from, sign, true), -1, times(to, sign, true));
        }
    }

    private static int[] times(int[] row, int sign, boolean turned) {
        if (row == null) {
            return null;
        }
        int[] made = new int[row.length];
        for (int i = 0; i < row.length; i++) {
            made[i] = row[i] * sign * (turned && i % 2 == 1 ? -1 : 1);
        }
        return made;
    }

    private static void shift(int[] from, int how, int[] to) {
        String call = java.util.Arrays.toString(from) + ": change(" + how + ")";
        RadicalAnswers x = Check.of(from);
        String before = Check.stateOf(x);
        Check.due(call, x.change(how), to != null);
        Check.dueNumbers(call, x, to == null ? from : to);
        if (to == null) {
            Check.dueState(call, x, before);
        } else {
            Check.dueState(call, x, Check.stateOf(Check.of(to)));
            Check.due(call + " and back", x.change(-how), true);
            Check.dueState(call + " and back", x, before);
        }
    }

    // Promise 4: "-x (0)"; no number is ever outside behind it.
    private static void changeMinusX() {
        RadicalAnswers x = Check.of(20, 20, 20, 20, 20);
        Check.due("all 20: change(0)", x.change(0), true);
        Check.dueNumbers("all 20: change(0)", x, 20, -20, 20, -20, 20);
        Check.due("change(0) again", x.change(0), true);
        Check.dueNumbers("change(0) again", x, 20, 20, 20, 20, 20);
        RadicalAnswers less = Check.of(-20, -20, -20, -20, -20);
        Check.due("all -20: change(0)", less.change(0), true);
        Check.dueNumbers("all -20: change(0)", less, -20, 20, -20, 20, -20);
        RadicalAnswers odd = Check.of(0, 20, 0, -20);
        Check.due("odd powers: change(0)", odd.change(0), true);
        Check.dueNumbers("odd powers: change(0)", odd, 0, -20, 0, 20);
    }

    // Promise 4: "or the powers are turned about, that of x to the k coming to the degree less k (2)"
    private static void changeTurnedAbout() {
        RadicalAnswers four = Check.of(20, -20, 1, 19, -19);
        Check.due("degree 4: change(2)", four.change(2), true);
        Check.dueNumbers("degree 4: change(2)", four, -19, 19, 1, -20, 20);
        RadicalAnswers three = Check.of(1, 2, 3, 4);
        Check.due("degree 3: change(2)", three.change(2), true);
        Check.dueNumbers("degree 3: change(2)", three, 4, 3, 2, 1);
        RadicalAnswers two = Check.of(1, 2, 3);
        Check.due("degree 2: change(2)", two.change(2), true);
        Check.dueNumbers("degree 2: change(2)", two, 3, 2, 1);
        RadicalAnswers one = Check.of(1, 2);
        Check.due("degree 1: change(2)", one.change(2), true);
        Check.dueNumbers("degree 1: change(2)", one, 2, 1);
        // Where the number at 0 is 0 the degree falls, and a second change does not lead back.
        for (int power = 1; power <= 4; power++) {
            RadicalAnswers x = new RadicalAnswers();
            x.put(power, -20);
            Check.due("a power alone: change(2)", x.change(2), true);
            Check.dueNumbers("a power alone: change(2)", x, -20);
            Check.due("a power alone, again: change(2)", x.change(2), true);
            Check.dueNumbers("a power alone, again: change(2)", x, -20);
        }
        RadicalAnswers falls = Check.of(0, 0, 5, 0, 7);
        Check.due("degree falls: change(2)", falls.change(2), true);
        Check.dueNumbers("degree falls: change(2)", falls, 7, 0, 5);
        Check.due("degree fell: change(2)", falls.change(2), true);
        Check.dueNumbers("degree fell: change(2)", falls, 5, 0, 7);
    }

    private static void changeOfDegreeZero() {
        for (int v : new int[] {-20, -1, 1, 20}) {
            for (int how = -1; how <= 2; how++) {
                RadicalAnswers x = Check.of(v);
                Check.due(v + ": change(" + how + ")", x.change(how), true);
                Check.dueNumbers(v + ": change(" + how + ")", x, v);
            }
        }
    }

    // Promise 4: "false, and nothing changes, if .. (or the EQUATION is 0)"
    private static void changeOfZero() {
        RadicalAnswers x = new RadicalAnswers();
        RadicalAnswers cleared = Check.of(1, 2, 3, 4, 5);
        Check.due("1 .. 5: factors()", cleared.factors(), 0);
        cleared.clear();
        for (int how = -1; how <= 2; how++) {
            Check.due("0: change(" + how + ")", x.change(how), false);
            Check.dueState("0: change(" + how + ")", x, "at 0 0 0 0 0");
            Check.due("cleared: change(" + how + ")", cleared.change(how), false);
            Check.dueState("cleared: change(" + how + ")", cleared, "at 0 0 0 0 0");
        }
    }

    // Promise 4: "IllegalArgumentException: another one."
    private static void changeAnother() {
        RadicalAnswers zero = new RadicalAnswers();
        RadicalAnswers x = Check.of(-6, 0, 1, 0, 1);
        RadicalAnswers full = Check.of(20, 20, 20, 20, 20);
        for (int how : BAD_HOW) {
            Check.dueRefused("0: change(" + how + ")", Check.ARGUMENT, zero, () -> zero.change(how) ? 1 : 0);
            Check.dueRefused("change(" + how + ")", Check.ARGUMENT, x, () -> x.change(how) ? 1 : 0);
            Check.dueRefused("full: change(" + how + ")", Check.ARGUMENT, full, () -> full.change(how) ? 1 : 0);
        }
        for (int how = -1; how <= 2; how++) {
            Check.due("just one: change(" + how + ")", Check.of(1, 1).change(how), true);
        }
    }

    // What a refused change worked out must not be seen by the calls behind it.
    private static void changeRefusedLaterFits() {
        RadicalAnswers x = Check.of(11, 10);
        Check.due("11, 10: change(1)", x.change(1), false);
        Check.due("11, 10: content()", x.content(), 1);
        Check.dueFactor("11, 10", x, 0, 1, 1, 0, 10, 11, 0);
        Check.due("put(0, 10)", x.put(0, 10), true);
        Check.due("10, 10: change(1)", x.change(1), true);
        Check.dueNumbers("10, 10: change(1)", x, 20, 10);
        Check.dueFactor("20, 10", x, 0, 1, 1, 0, 1, 2, 0);
        Check.due("20, 10: change(1)", x.change(1), false);
        Check.due("20, 10: change(-1)", x.change(-1), true);
        Check.dueNumbers("20, 10: change(-1)", x, 10, 10);
    }

    // Promise 5: "How many FACTORS there are."
    private static void factorsHowMany() {
        Check.due("20: factors()", Check.of(20).factors(), 0);
        Check.due("x to the 4 + 1: factors()", Check.of(1, 0, 0, 0, 1).factors(), 0);
        Check.due("20 x: factors()", Check.of(0, 20).factors(), 1);
        Check.due("x to the 4: factors()", Check.of(0, 0, 0, 0, 1).factors(), 1);
        Check.due("x x + 1 twice: factors()", Check.of(1, 0, 2, 0, 1).factors(), 1);
        Check.due("x x (x x + 1): factors()", Check.of(0, 0, 1, 0, 1).factors(), 2);
        Check.due("x (x + 1)(x x + 1): factors()", Check.of(0, 1, 1, 1, 1).factors(), 3);
        Check.due("(x x - 1)(x x - 4): factors()", Check.of(4, 0, -5, 0, 1).factors(), 4);
        Check.due("all 20: factors()", Check.of(20, 20, 20, 20, 20).factors(), 0);
        Check.due("20 (x x x + x x + x + 1): factors()", Check.of(20, 20, 20, 20).factors(), 2);
    }

    // Promise 6: "The degree of a FACTOR (what 0), its MULTIPLICITY (1), its a (0 if it is LINEAR), b, c (2, 3,
    // 4), its D (5: 0 of a LINEAR one)."
    private static void factorEachWhat() {
        Check.dueFactor("-20 x + 19", Check.of(19, -20), 0, 1, 1, 0, 20, -19, 0);
        Check.dueFactor("-x three times", Check.of(0, 0, 0, -1), 0, 1, 3, 0, 1, 0, 0);
        Check.dueFactor("19 x x + 20 x - 20", Check.of(-20, 20, 19), 0, 2, 1, 19, 20, -20, 30);
        Check.dueFactor("(x x + 4) twice", Check.of(16, 0, 8, 0, 1), 0, 2, 2, 1, 0, 4, -1);
        // The greatest b of a factor, above 20.
        Check.dueFactor("20 x x - 39 x + 20", Check.of(20, -19, -19, 20), 1, 2, 1, 20, -39, 20, -79);
        Check.dueFactor("20 x x + 39 x + 20", Check.of(-20, -19, 19, 20), 1, 2, 1, 20, 39, 20, -79);
    }

    // Promise 6: "IllegalArgumentException: another what."
    private static void factorAnotherWhat() {
        int[] x = {2, -2, -1, 1};
        for (int k = 0; k < 2; k++) {
            int number = k;
            for (int what : new int[] {-1, 6, Integer.MIN_VALUE, Integer.MAX_VALUE}) {
                String call = "factor(" + k + ", " + what + ")";
                Check.dueRefused(call, Check.ARGUMENT, x, one -> one.factor(number, what));
            }
        }
        Check.dueFactor("x - 1", Check.of(x), 0, 1, 1, 0, 1, -1, 0);
        Check.dueFactor("x x - 2", Check.of(x), 1, 2, 1, 1, 0, -2, 2);
    }

    // Promise 7: "The CONTENT."
    private static void contentSigns() {
        for (int power = 0; power <= 4; power++) {
            for (int v = -20; v <= 20; v++) {
                if (v != 0) {
                    RadicalAnswers x = new RadicalAnswers();
                    x.put(power, v);
                    Check.due(v + " at " + power + ": content()", x.content(), v);
                }
            }
        }
        Check.due("the highest one alone tells the sign", Check.of(-20, -20, -20, -20, 20).content(), 20);
        Check.due("the highest one alone tells the sign", Check.of(20, 20, 20, 20, -20).content(), -20);
        Check.due("20, 19: content()", Check.of(20, 20, 20, 20, 19).content(), 1);
        Check.due("20, -19: content()", Check.of(20, 20, 20, 20, -19).content(), -1);
        Check.due("(2 x + 2)(3 x + 3): content()", Check.of(6, 12, 6).content(), 6);
    }

    // Promise 8: "The number at a power in what is LEFT."
    private static void leftAtEachPower() {
        Check.dueLeft("7 at 0", Check.of(7), 1, 0, 0, 0, 0);
        Check.dueLeft("x to the 4 - 2", Check.of(-2, 0, 0, 0, 1), -2, 0, 0, 0, 1);
        Check.dueLeft("-x to the 4 + 2", Check.of(2, 0, 0, 0, -1), -2, 0, 0, 0, 1);
        Check.dueLeft("1 .. 5", Check.of(1, 2, 3, 4, 5), 1, 2, 3, 4, 5);
        Check.dueLeft("5 .. 1, less", Check.of(-5, -4, -3, -2, -1), 5, 4, 3, 2, 1);
        RadicalAnswers x = Check.of(-2, 0, 0, 1);
        for (int power : new int[] {-1, 5, Integer.MIN_VALUE, Integer.MAX_VALUE}) {
            Check.dueRefused("left(" + power + ")", Check.INDEX, x, () -> x.left(power));
        }
        Check.due("left(4) of degree 3", x.left(4), 0);
        // What was left before must not be seen once nothing is.
        x.put(0, -1);
        Check.dueLeft("x x x - 1", x, 1);
    }

    // Promise 9: "of P (which 0) or Q (1; 0 of a LINEAR one's), part 0 or 1"
    private static void answerOfLinear() {
        Check.dueAnswer("20 x - 19", Check.of(-19, 20), 0, 19, 20, 0, 1);
        Check.dueAnswer("x - 20", Check.of(-20, 1), 0, 20, 1, 0, 1);
        Check.dueAnswer("x to the 4", Check.of(0, 0, 0, 0, 20), 0, 0, 1, 0, 1);
        RadicalAnswers mixed = Check.of(2, -8, -1, 4);
        Check.dueAnswer("4 x - 1", mixed, 0, 1, 4, 0, 1);
        Check.dueAnswer("x x - 2", mixed, 1, 0, 1, 1, 1);
    }

    // Promise 9: "IllegalArgumentException: another which, part."
    private static void answerAnother() {
        int[] x = {2, -8, -1, 4};
        for (int k = 0; k < 2; k++) {
            int number = k;
            for (int bad : new int[] {-1, 2, Integer.MIN_VALUE, Integer.MAX_VALUE}) {
                for (int good = 0; good <= 1; good++) {
                    int fine = good;
                    String call = "answer(" + k + ", " + bad + ", " + fine + ")";
                    Check.dueRefused(call, Check.ARGUMENT, x, one -> one.answer(number, bad, fine));
                    call = "answer(" + k + ", " + fine + ", " + bad + ")";
                    Check.dueRefused(call, Check.ARGUMENT, x, one -> one.answer(number, fine, bad));
                }
                Check.dueRefused("both " + bad, Check.ARGUMENT, x, one -> one.answer(number, bad, bad));
            }
        }
    }

    // Promise 10: "How many different real ANSWERS there are (of FACTORS)."
    private static void realDifferent() {
        Check.due("-20: real()", Check.of(-20).real(), 0);
        Check.due("x x + 1 twice: real()", Check.of(1, 0, 2, 0, 1).real(), 0);
        Check.due("x - 1 four times: real()", Check.of(1, -4, 6, -4, 1).real(), 1);
        Check.due("x (x x + 1): real()", Check.of(0, 1, 0, 1).real(), 1);
        Check.due("x x (x - 1): real()", Check.of(0, 0, -1, 1).real(), 2);
        Check.due("x x - 2 twice: real()", Check.of(4, 0, -4, 0, 1).real(), 2);
        Check.due("x (x x - 2): real()", Check.of(0, -2, 0, 1).real(), 3);
        Check.due("x x (x x - 2): real()", Check.of(0, 0, -2, 0, 1).real(), 3);
        Check.due("(x x - 2)(x x - 3): real()", Check.of(6, 0, -5, 0, 1).real(), 4);
        Check.due("(x x - 1)(x x - 4): real()", Check.of(4, 0, -5, 0, 1).real(), 4);
        // Real answers of what is left are none of FACTORS.
        Check.due("x to the 4 - 2: real()", Check.of(-2, 0, 0, 0, 1).real(), 0);
        Check.due("x (x x x - 2): real()", Check.of(0, -2, 0, 0, 1).real(), 1);
    }

    private static void dueFloors(String call, RadicalAnswers x, int k, int upper, int lower) {
        Check.due(call + ": floor(" + k + ", true)", x.floor(k, true), upper);
        Check.due(call + ": floor(" + k + ", false)", x.floor(k, false), lower);
    }

    // Promise 11: "of a LINEAR one its ANSWER" (the greatest whole number that isn't above it)
    private static void floorOfLinear() {
        for (int b = 1; b <= 20; b++) {
            for (int c = -20; c <= 20; c++) {
                int due = 0;
                while (due * b > -c) {
                    due--;
                }
                while ((due + 1) * b <= -c) {
                    due++;
                }
                dueFloors(b + " x + " + c, Check.of(c, b), 0, due, due);
                dueFloors("less " + b + " x + " + c, Check.of(-c, -b), 0, due, due);
            }
        }
    }

    // Promise 11: "The greatest whole number that isn't above P + Q times the root (upper), or P - Q times it"
    private static void floorOfQuadratic() {
        dueFloors("x x - 3", Check.of(-3, 0, 1), 0, 1, -2);
        dueFloors("x x - 5", Check.of(-5, 0, 1), 0, 2, -3);
        dueFloors("x x - 15", Check.of(-15, 0, 1), 0, 3, -4);
        dueFloors("x x - 17", Check.of(-17, 0, 1), 0, 4, -5);
        dueFloors("less x x - 17", Check.of(17, 0, -1), 0, 4, -5);
        // Just above and just below whole numbers: 20.05, -0.05; 19.95, 0.05; 0.05, -20.05; -0.05, -19.95.
        dueFloors("x x - 20 x - 1", Check.of(-1, -20, 1), 0, 20, -1);
        dueFloors("x x - 20 x + 1", Check.of(1, -20, 1), 0, 19, 0);
        dueFloors("x x + 20 x - 1", Check.of(-1, 20, 1), 0, 0, -21);
        dueFloors("x x + 20 x + 1", Check.of(1, 20, 1), 0, -1, -20);
        // The nearest to whole numbers of all: 1.0253, -0.9753; 0.9753, -1.0253.
        dueFloors("20 x x - x - 20", Check.of(-20, -1, 20), 0, 1, -1);
        dueFloors("20 x x + x - 20", Check.of(-20, 1, 20), 0, 0, -2);
        // Both between the same two whole numbers.
        dueFloors("5 x x - 5 x + 1", Check.of(1, -5, 5), 0, 0, 0);
        dueFloors("5 x x + 5 x + 1", Check.of(1, 5, 5), 0, -1, -1);
    }

    // Promise 11: "IllegalArgumentException: they aren't real."
    private static void floorNotReal() {
        for (boolean upper : BOTH) {
            RadicalAnswers just = Check.of(2, 4, 4);
            Check.dueRefused("2 (2 x x + 2 x + 1)", Check.ARGUMENT, just, () -> just.floor(0, upper));
            RadicalAnswers far = Check.of(20, 0, 20);
            Check.dueRefused("x x + 1", Check.ARGUMENT, far, () -> far.floor(0, upper));
            RadicalAnswers second = Check.of(0, 1, 0, 1);
            Check.due("x (x x + 1): floor(0, ..)", second.floor(0, upper), 0);
            Check.dueRefused("x (x x + 1)", Check.ARGUMENT, second, () -> second.floor(1, upper));
            Check.dueRefused("x (x x + 1)", Check.INDEX, second, () -> second.floor(2, upper));
        }
    }

    // Promise 12: ".. 0 .. as the first one is .. the same"
    private static void compareWithItself() {
        RadicalAnswers x = Check.of(6, 0, -5, 0, 1);
        for (int k = 0; k < 2; k++) {
            Check.due("upper, itself", x.compare(k, true, k, true), 0);
            Check.due("lower, itself", x.compare(k, false, k, false), 0);
            Check.due("upper, lower", x.compare(k, true, k, false), 1);
            Check.due("lower, upper", x.compare(k, false, k, true), -1);
        }
        RadicalAnswers twice = Check.of(4, 0, -4, 0, 1);
        Check.due("twice there: upper, upper", twice.compare(0, true, 0, true), 0);
        Check.due("twice there: lower, upper", twice.compare(0, false, 0, true), -1);
    }

    // Promise 12: a LINEAR one has one ANSWER alone, upper or not.
    private static void compareLinear() {
        RadicalAnswers x = Check.of(1, -9, 20);
        for (boolean upper : BOTH) {
            for (boolean other : BOTH) {
                Check.due("1/5, 1/5", x.compare(0, upper, 0, other), 0);
                Check.due("1/5, 1/4", x.compare(0, upper, 1, other), -1);
                Check.due("1/4, 1/5", x.compare(1, upper, 0, other), 1);
                Check.due("1/4, 1/4", x.compare(1, upper, 1, other), 0);
            }
        }
    }

    // Promise 12, where the answers of one equation are nearest to one another (found by looking at all of them):
    // less than 1/1000 apart for two quadratic factors, 1/300 for a linear and a quadratic one.
    private static void compareClosest() {
        String call = "x x - 3 x + 1, 9 x x + 7 x - 4";
        dueCompare(call, Check.of(4, -19, 16, 20, -9), 0, false, 1, true, -1);
        dueCompare(call + ", turned", Check.of(-4, -19, -16, 20, 9), 0, true, 1, false, 1);
        call = "2 x x + 2 x - 1, 3 x x - 12 x + 4";
        dueCompare(call, Check.of(4, -20, 19, 18, -6), 0, true, 1, false, -1);
        dueCompare(call + ", turned", Check.of(-4, -20, -19, 18, 6), 0, false, 1, true, 1);
        dueCompare("x x + 2 x - 2, 8 x x + x - 5", Check.of(10, -12, -19, 17, 8), 0, true, 1, true, 1);
        dueCompare("x x + x - 1, 15 x x + 2 x - 7", Check.of(7, -9, -20, 17, 15), 0, true, 1, true, -1);
        for (boolean any : BOTH) {
            dueCompare("linear, 0.0026 above", Check.of(-8, -13, 16, 18, -13), 0, any, 2, false, 1);
            dueCompare("linear, 0.0026 below", Check.of(8, -13, -16, 18, 13), 1, any, 2, true, -1);
            dueCompare("linear, 0.0049 above", Check.of(2, -13, 17, 14), 0, any, 1, true, 1);
            dueCompare("linear, 0.0069 below", Check.of(-6, -13, 7, 20), 0, any, 1, false, -1);
        }
    }

    /** This comparison, and the other way round. */
    private static void dueCompare(String call, RadicalAnswers x, int k, boolean upper, int m, boolean other, int due) {
        Check.due(call + ": compare", x.compare(k, upper, m, other), due);
        Check.due(call + ": compare the other way", x.compare(m, other, k, upper), -due);
    }

    // Promise 12: "-1, 0, 1 as the first one is less, the same, greater"
    private static void compareAllPairs() {
        // x + 1, x - 3, x x - 2: -1.41, -1, 1.41, 3.
        RadicalAnswers x = Check.of(6, 4, -5, -2, 1);
        dueOrder("-root 2, -1, root 2, 3", x, new int[] {2, 0, 2, 1}, new boolean[] {false, true, true, false});
        // (x x - 5 x + 5)(x x - 2): 3.62, 1.38, 1.41, -1.41.
        RadicalAnswers y = Check.of(-10, 10, 3, -5, 1);
        dueOrder("two quadratic ones", y, new int[] {1, 0, 1, 0}, new boolean[] {false, false, true, true});
        RadicalAnswers z = Check.of(4, 0, -5, 0, 1);
        dueOrder("-2, -1, 1, 2", z, new int[] {0, 1, 2, 3}, new boolean[] {false, true, false, true});
    }

    private static void dueOrder(String call, RadicalAnswers x, int[] k, boolean[] upper) {
        for (int i = 0; i < k.length; i++) {
            for (int j = 0; j < k.length; j++) {
                int due = Integer.compare(i, j);
                Check.due(call + ": " + i + ", " + j, x.compare(k[i], upper[i], k[j], upper[j]), due);
            }
        }
    }

    // Promise 12: "IllegalArgumentException: one isn't real."
    private static void compareNotReal() {
        int[] x = {0, 1, 0, 1};
        int[] none = {2, 0, 3, 0, 1};
        for (boolean upper : BOTH) {
            for (boolean other : BOTH) {
                Check.due("0, 0", Check.of(x).compare(0, upper, 0, other), 0);
                Check.dueRefused("0, not real", Check.ARGUMENT, x, one -> one.compare(0, upper, 1, other));
                Check.dueRefused("not real, 0", Check.ARGUMENT, x, one -> one.compare(1, upper, 0, other));
                Check.dueRefused("not real, itself", Check.ARGUMENT, x, one -> one.compare(1, upper, 1, other));
                Check.dueRefused("neither real", Check.ARGUMENT, none, one -> one.compare(0, upper, 1, other));
                Check.dueRefused("not real, none", Check.INDEX, none, one -> one.compare(0, upper, 2, other));
                Check.dueRefused("none, not real", Check.INDEX, none, one -> one.compare(2, upper, 0, other));
            }
        }
    }

    // Promise 13: "All numbers are 0."
    private static void clearAll() {
        RadicalAnswers fresh = new RadicalAnswers();
        fresh.clear();
        Check.dueState("new, cleared", fresh, "at 0 0 0 0 0");
        RadicalAnswers full = Check.of(-20, 20, -20, 20, -20);
        Check.due("full: content()", full.content(), -20);
        full.clear();
        Check.dueState("full, cleared", full, "at 0 0 0 0 0");
        Check.dueThrow("full, cleared: content()", Check.STATE, () -> full.content());
        full.clear();
        Check.dueState("full, cleared twice", full, "at 0 0 0 0 0");
        for (int power = 0; power <= 4; power++) {
            Check.due("cleared: put(" + power + ", 0)", full.put(power, 0), false);
        }
        Check.due("cleared: put(2, 3)", full.put(2, 3), true);
        Check.dueState("cleared, then 3 x x", full, Check.stateOf(Check.of(0, 0, 3)));
    }

    // "An object is used for at most 512 calls after it has been made": the last one of them counts too.
    private static void fiveHundredTwelveCalls() {
        RadicalAnswers x = new RadicalAnswers();
        x.put(1, -2);
        x.put(3, 1);
        for (int call = 3; call <= 511; call++) {
            Check.due("call " + call + ": put", x.put(0, call % 20), true);
        }
        Check.due("call 512: content()", x.content(), 1);
        RadicalAnswers y = Check.of(-2, 0, 1);
        for (int call = 4; call <= 511; call++) {
            Check.dueThrow("call " + call + ": floor", Check.INDEX, () -> y.floor(1, true));
        }
        Check.due("call 512: floor", y.floor(0, true), 1);
    }
}

/** Each promise by ordinary inputs, by the edges that the document names, and by wrong inputs. */
public final class PromisesTest {
    private static final int[] FAR = {Integer.MIN_VALUE, -1000, -7, 7, 1000, Integer.MAX_VALUE};

    public static void main(String[] args) {
        newObject();
        put();
        at();
        changeShifts();
        changeTurns();
        changeWrong();
        factors();
        factor();
        factorOrder();
        factorWrong();
        content();
        left();
        answer();
        answerWrong();
        real();
        floor();
        floorWrong();
        compare();
        compareClose();
        compareWrong();
        clear();
        changesAreSeen();
        Check.end();
    }

    private static void newObject() {
        RadicalAnswers x = new RadicalAnswers();
        Check.dueNumbers("promise 1, new", x);
        dueNothing("promise 1, new", x);
    }

    /** All calls that look at the equation, with arguments that would be wrong too. */
    private static void dueNothing(String when, RadicalAnswers x) {
        Check.dueThrow(when + ": factors()", Check.STATE, () -> x.factors());
        Check.dueThrow(when + ": content()", Check.STATE, () -> x.content());
        Check.dueThrow(when + ": real()", Check.STATE, () -> x.real());
        for (int k : new int[] {-1, 0, 4, 9}) {
            Check.dueThrow(when + ": left(" + k + ")", Check.STATE, () -> x.left(k));
            Check.dueThrow(when + ": factor(" + k + ", 0)", Check.STATE, () -> x.factor(k, 0));
            Check.dueThrow(when + ": factor(" + k + ", 6)", Check.STATE, () -> x.factor(k, 6));
            Check.dueThrow(when + ": answer(" + k + ", 0, 0)", Check.STATE, () -> x.answer(k, 0, 0));
            Check.dueThrow(when + ": answer(" + k + ", 2, 2)", Check.STATE, () -> x.answer(k, 2, 2));
            Check.dueThrow(when + ": floor(" + k + ", true)", Check.STATE, () -> x.floor(k, true));
            Check.dueThrow(when + ": compare(" + k + ", ..)", Check.STATE, () -> x.compare(k, true, k, false));
        }
    }

    private static void put() {
        RadicalAnswers x = new RadicalAnswers();
        for (int power = 0; power <= 4; power++) {
            Check.due("put(" + power + ", 0)", x.put(power, 0), false);
            Check.due("put(" + power + ", 20)", x.put(power, 20), true);
            Check.due("put(" + power + ", 20) again", x.put(power, 20), false);
            Check.due("put(" + power + ", -20)", x.put(power, -20), true);
            Check.due("put(" + power + ", k)", x.put(power, power + 1), true);
        }
        Check.dueNumbers("put", x, 1, 2, 3, 4, 5);
        for (int power : new int[] {-1, 5, Integer.MIN_VALUE, Integer.MAX_VALUE}) {
            Check.dueThrow("put(" + power + ", 1)", Check.INDEX, () -> x.put(power, 1) ? 1 : 0);
            Check.dueThrow("put(" + power + ", 21)", Check.INDEX, () -> x.put(power, 21) ? 1 : 0);
        }
        for (int v : new int[] {-21, 21, Integer.MIN_VALUE, Integer.MAX_VALUE}) {
            Check.dueThrow("put(4, " + v + ")", Check.ARGUMENT, () -> x.put(4, v) ? 1 : 0);
        }
        Check.dueNumbers("put, wrong ones", x, 1, 2, 3, 4, 5);
    }

    private static void at() {
        RadicalAnswers x = Check.of(-20, 20, 0, 7, -1);
        Check.dueNumbers("at", x, -20, 20, 0, 7, -1);
        for (int power : new int[] {-1, 5, Integer.MIN_VALUE, Integer.MAX_VALUE}) {
            Check.dueThrow("at(" + power + ")", Check.INDEX, () -> x.at(power));
            Check.dueThrow("new, at(" + power + ")", Check.INDEX, () -> new RadicalAnswers().at(power));
        }
    }

    private static void changeShifts() {
        RadicalAnswers x = Check.of(0, 0, 0, 0, 1);
        Check.due("x to the 4: change(1)", x.change(1), true);
        Check.dueNumbers("x and 1 to the 4", x, 1, 4, 6, 4, 1);
        Check.due("change(1) beyond 20", x.change(1), false);
        Check.dueNumbers("change(1) beyond 20", x, 1, 4, 6, 4, 1);
        Check.due("change(-1)", x.change(-1), true);
        Check.dueNumbers("change(-1)", x, 0, 0, 0, 0, 1);
        Check.due("change(-1)", x.change(-1), true);
        Check.dueNumbers("x less 1 to the 4", x, 1, -4, 6, -4, 1);
        Check.due("change(-1) beyond 20", x.change(-1), false);
        Check.dueNumbers("change(-1) beyond 20", x, 1, -4, 6, -4, 1);
        RadicalAnswers y = Check.of(17, 3);
        Check.due("to 20: change(1)", y.change(1), true);
        Check.dueNumbers("to 20", y, 20, 3);
        Check.due("to 23: change(1)", y.change(1), false);
        Check.dueNumbers("to 23", y, 20, 3);
        RadicalAnswers z = Check.of(-17, 3);
        Check.due("to -20: change(-1)", z.change(-1), true);
        Check.dueNumbers("to -20", z, -20, 3);
        Check.due("to -23: change(-1)", z.change(-1), false);
        RadicalAnswers whole = Check.of(5);
        Check.due("5: change(1)", whole.change(1), true);
        Check.due("5: change(-1)", whole.change(-1), true);
        Check.dueNumbers("5 shifted", whole, 5);
    }

    private static void changeTurns() {
        RadicalAnswers x = Check.of(1, -2, 3, -4, 5);
        Check.due("change(0)", x.change(0), true);
        Check.dueNumbers("change(0)", x, 1, 2, 3, 4, 5);
        Check.due("change(2)", x.change(2), true);
        Check.dueNumbers("change(2)", x, 5, 4, 3, 2, 1);
        RadicalAnswers cubic = Check.of(0, 7, 0, -3);
        Check.due("degree 3: change(2)", cubic.change(2), true);
        Check.dueNumbers("degree 3: change(2)", cubic, -3, 0, 7);
        Check.due("degree 2: change(2)", cubic.change(2), true);
        Check.dueNumbers("degree 2: change(2)", cubic, 7, 0, -3);
        Check.due("even powers: change(0)", cubic.change(0), true);
        Check.dueNumbers("even powers: change(0)", cubic, 7, 0, -3);
        RadicalAnswers power = Check.of(0, 0, 0, -20);
        Check.due("-20 x x x: change(0)", power.change(0), true);
        Check.dueNumbers("-20 x x x: change(0)", power, 0, 0, 0, 20);
        Check.due("20 x x x: change(2)", power.change(2), true);
        Check.dueNumbers("20 x x x: change(2)", power, 20);
        Check.due("20: change(2)", power.change(2), true);
        Check.due("20: change(0)", power.change(0), true);
        Check.dueNumbers("20: change(2), change(0)", power, 20);
    }

    private static void changeWrong() {
        RadicalAnswers x = new RadicalAnswers();
        for (int how = -1; how <= 2; how++) {
            Check.due("0: change(" + how + ")", x.change(how), false);
        }
        Check.dueNumbers("0 changed", x);
        RadicalAnswers y = Check.of(1, 2, 3);
        for (int how : new int[] {-2, 3, Integer.MIN_VALUE, Integer.MAX_VALUE}) {
            Check.dueThrow("0: change(" + how + ")", Check.ARGUMENT, () -> x.change(how) ? 1 : 0);
            Check.dueThrow("change(" + how + ")", Check.ARGUMENT, () -> y.change(how) ? 1 : 0);
        }
        Check.dueNumbers("wrong changes", y, 1, 2, 3);
    }

    private static void factors() {
        Check.due("7: factors()", Check.of(7).factors(), 0);
        Check.due("x to the 4: factors()", Check.of(0, 0, 0, 0, 3).factors(), 1);
        Check.due("4 linear ones: factors()", Check.of(4, 0, -5, 0, 1).factors(), 4);
        Check.due("(x x + 1)(x x + 2): factors()", Check.of(2, 0, 3, 0, 1).factors(), 2);
        Check.due("(x x + 1) twice: factors()", Check.of(1, 0, 2, 0, 1).factors(), 1);
        Check.due("x x x - 2: factors()", Check.of(-2, 0, 0, 1).factors(), 0);
        Check.due("x (x x x - 2): factors()", Check.of(0, -2, 0, 0, 1).factors(), 1);
        Check.due("x to the 4 + 4: factors()", Check.of(4, 0, 0, 0, 1).factors(), 2);
        Check.due("x to the 4 + 1: factors()", Check.of(1, 0, 0, 0, 1).factors(), 0);
    }

    private static void factor() {
        Check.dueFactor("6 x - 4", Check.of(-4, 6), 0, 1, 1, 0, 3, -2, 0);
        Check.dueFactor("-6 x + 4", Check.of(4, -6), 0, 1, 1, 0, 3, -2, 0);
        Check.dueFactor("-3 x to the 4", Check.of(0, 0, 0, 0, -3), 0, 1, 4, 0, 1, 0, 0);
        Check.dueFactor("20 x + 19", Check.of(19, 20), 0, 1, 1, 0, 20, 19, 0);
        Check.dueFactor("x - 20", Check.of(-20, 1), 0, 1, 1, 0, 1, -20, 0);
        Check.dueFactor("(2 x x + 2 x - 1) twice", Check.of(1, -4, 0, 8, 4), 0, 2, 2, 2, 2, -1, 3);
        Check.dueFactor("x x + 1", Check.of(5, 0, 5), 0, 2, 1, 1, 0, 1, -1);
        Check.dueFactor("x x - 20", Check.of(-20, 0, 1), 0, 2, 1, 1, 0, -20, 5);
        RadicalAnswers mixed = Check.of(0, 0, -2, -1, 1);
        Check.due("x x (x + 1)(x - 2): factors()", mixed.factors(), 3);
        Check.dueFactor("x x (x + 1)(x - 2)", mixed, 0, 1, 1, 0, 1, 1, 0);
        Check.dueFactor("x x (x + 1)(x - 2)", mixed, 1, 1, 2, 0, 1, 0, 0);
        Check.dueFactor("x x (x + 1)(x - 2)", mixed, 2, 1, 1, 0, 1, -2, 0);
        RadicalAnswers above = Check.of(-20, -19, 19, 20);
        Check.dueFactor("(x - 1)(20 x x + 39 x + 20)", above, 1, 2, 1, 20, 39, 20, -79);
        RadicalAnswers far = Check.of(20, -18, -18, 20);
        Check.due("2 (x + 1)(10 x x - 19 x + 10): factors()", far.factors(), 2);
        Check.dueFactor("2 (x + 1)(10 x x - 19 x + 10)", far, 1, 2, 1, 10, -19, 10, -39);
    }

    private static void factorOrder() {
        RadicalAnswers linear = Check.of(1, 0, -5, 0, 4);
        Check.dueFactor("-1 first", linear, 0, 1, 1, 0, 1, 1, 0);
        Check.dueFactor("then -1/2", linear, 1, 1, 1, 0, 2, 1, 0);
        Check.dueFactor("then 1/2", linear, 2, 1, 1, 0, 2, -1, 0);
        Check.dueFactor("then 1", linear, 3, 1, 1, 0, 1, -1, 0);
        RadicalAnswers byA = Check.of(-2, 0, -3, 0, 2);
        Check.dueFactor("(x x - 2)(2 x x + 1)", byA, 0, 2, 1, 1, 0, -2, 2);
        Check.dueFactor("(x x - 2)(2 x x + 1)", byA, 1, 2, 1, 2, 0, 1, -2);
        RadicalAnswers byB = Check.of(4, 0, 0, 0, 1);
        Check.dueFactor("(x x - 2 x + 2)(x x + 2 x + 2)", byB, 0, 2, 1, 1, -2, 2, -1);
        Check.dueFactor("(x x - 2 x + 2)(x x + 2 x + 2)", byB, 1, 2, 1, 1, 2, 2, -1);
        RadicalAnswers byC = Check.of(-6, 0, 1, 0, 1);
        Check.dueFactor("(x x - 2)(x x + 3)", byC, 0, 2, 1, 1, 0, -2, 2);
        Check.dueFactor("(x x - 2)(x x + 3)", byC, 1, 2, 1, 1, 0, 3, -3);
        RadicalAnswers kinds = Check.of(-10, 5, 2, -1);
        Check.dueFactor("linear before quadratic", kinds, 0, 1, 1, 0, 1, -2, 0);
        Check.dueFactor("linear before quadratic", kinds, 1, 2, 1, 1, 0, -5, 5);
    }

    private static void factorWrong() {
        RadicalAnswers x = Check.of(4, 0, 0, 0, 1);
        for (int k : new int[] {-1, 2, 3, 4, Integer.MIN_VALUE, Integer.MAX_VALUE}) {
            Check.dueThrow("factor(" + k + ", 0)", Check.INDEX, () -> x.factor(k, 0));
            Check.dueThrow("factor(" + k + ", 6)", Check.INDEX, () -> x.factor(k, 6));
        }
        for (int what : new int[] {-1, 6, Integer.MIN_VALUE, Integer.MAX_VALUE}) {
            Check.dueThrow("factor(1, " + what + ")", Check.ARGUMENT, () -> x.factor(1, what));
        }
        Check.dueThrow("7: factor(0, 0)", Check.INDEX, () -> Check.of(7).factor(0, 0));
    }

    private static void content() {
        Check.due("7: content()", Check.of(7).content(), 7);
        Check.due("-7: content()", Check.of(-7).content(), -7);
        Check.due("-12 x + 18: content()", Check.of(18, -12).content(), -6);
        Check.due("all -20: content()", Check.of(-20, -20, -20, -20, -20).content(), -20);
        Check.due("6, 10, 15: content()", Check.of(6, 10, 15).content(), 1);
        Check.due("x x - 5 negative: content()", Check.of(10, 0, 0, 0, -4).content(), -2);
    }

    private static void left() {
        Check.dueLeft("-7", Check.of(-7), 1);
        Check.dueLeft("x to the 4", Check.of(0, 0, 0, 0, 2), 1);
        Check.dueLeft("x x + 1", Check.of(1, 0, 1), 1);
        Check.dueLeft("-3 x x x + 6", Check.of(6, 0, 0, -3), -2, 0, 0, 1);
        Check.dueLeft("-3 x x x x + 6 x", Check.of(0, 6, 0, 0, -3), -2, 0, 0, 1);
        Check.dueLeft("x to the 4 + 1", Check.of(2, 0, 0, 0, 2), 1, 0, 0, 0, 1);
        Check.dueLeft("(x + 1)(x x x + x + 1)", Check.of(1, 2, 1, 1, 1), 1, 1, 0, 1);
        Check.dueLeft("numbers above 20", Check.of(-18, -19, -3, 20, 20), 18, 37, 40, 20);
        RadicalAnswers x = Check.of(-2, 0, 0, 1);
        for (int power : new int[] {-1, 5, Integer.MIN_VALUE, Integer.MAX_VALUE}) {
            Check.dueThrow("left(" + power + ")", Check.INDEX, () -> x.left(power));
        }
    }

    private static void answer() {
        Check.dueAnswer("6 x - 4", Check.of(-4, 6), 0, 2, 3, 0, 1);
        Check.dueAnswer("x", Check.of(0, 9), 0, 0, 1, 0, 1);
        Check.dueAnswer("20 x + 19", Check.of(19, 20), 0, -19, 20, 0, 1);
        Check.dueAnswer("x x - 3 x + 1", Check.of(1, -3, 1), 0, 3, 2, 1, 2);
        Check.dueAnswer("x x - 20", Check.of(-20, 0, 1), 0, 0, 1, 2, 1);
        Check.dueAnswer("x x + 2 x + 5", Check.of(5, 2, 1), 0, -1, 1, 2, 1);
        Check.dueAnswer("9 x x - 6 x - 1", Check.of(-1, -6, 9), 0, 1, 3, 1, 3);
        Check.dueAnswer("-2 x x + 1", Check.of(1, 0, -2), 0, 0, 1, 1, 2);
        Check.dueAnswer("20 x x + 20 x + 19", Check.of(19, 20, 20), 0, -1, 2, 1, 10);
    }

    private static void answerWrong() {
        RadicalAnswers x = Check.of(-2, 1, 0);
        for (int far : FAR) {
            Check.dueThrow("answer(" + far + ", 0, 0)", Check.INDEX, () -> x.answer(far, 0, 0));
            Check.dueThrow("answer(" + far + ", 2, 0)", Check.INDEX, () -> x.answer(far, 2, 0));
            Check.dueThrow("answer(0, " + far + ", 0)", Check.ARGUMENT, () -> x.answer(0, far, 0));
            Check.dueThrow("answer(0, 0, " + far + ")", Check.ARGUMENT, () -> x.answer(0, 0, far));
        }
        for (int near : new int[] {-1, 2}) {
            Check.dueThrow("answer(0, " + near + ", 0)", Check.ARGUMENT, () -> x.answer(0, near, 0));
            Check.dueThrow("answer(0, 1, " + near + ")", Check.ARGUMENT, () -> x.answer(0, 1, near));
        }
        Check.dueThrow("answer(1, 0, 0)", Check.INDEX, () -> x.answer(1, 0, 0));
        Check.dueThrow("answer(-1, 0, 2)", Check.INDEX, () -> x.answer(-1, 0, 2));
    }

    private static void real() {
        Check.due("7: real()", Check.of(7).real(), 0);
        Check.due("x to the 4: real()", Check.of(0, 0, 0, 0, 1).real(), 1);
        Check.due("x x + 1: real()", Check.of(1, 0, 1).real(), 0);
        Check.due("x x - 2: real()", Check.of(-2, 0, 1).real(), 2);
        Check.due("(x x - 2) twice: real()", Check.of(4, 0, -4, 0, 1).real(), 2);
        Check.due("(x x - 2)(x x - 3): real()", Check.of(6, 0, -5, 0, 1).real(), 4);
        Check.due("(x x - 2)(x x + 3): real()", Check.of(-6, 0, 1, 0, 1).real(), 2);
        Check.due("x x x - 2: real()", Check.of(-2, 0, 0, 1).real(), 0);
        Check.due("x (x - 1)(x x - 2): real()", Check.of(0, 2, -2, -1, 1).real(), 4);
    }

    private static void dueFloors(String call, RadicalAnswers x, int k, int upper, int lower) {
        Check.due(call + ": floor(" + k + ", true)", x.floor(k, true), upper);
        Check.due(call + ": floor(" + k + ", false)", x.floor(k, false), lower);
    }

    private static void floor() {
        dueFloors("3 x - 7", Check.of(-7, 3), 0, 2, 2);
        dueFloors("3 x + 7", Check.of(7, 3), 0, -3, -3);
        dueFloors("x + 20", Check.of(20, 1), 0, -20, -20);
        dueFloors("x", Check.of(0, 5), 0, 0, 0);
        dueFloors("x x - 2", Check.of(-2, 0, 1), 0, 1, -2);
        dueFloors("x x - 2 x - 1", Check.of(-1, -2, 1), 0, 2, -1);
        dueFloors("x x - x - 1", Check.of(-1, -1, 1), 0, 1, -1);
        dueFloors("x x - 20 x - 20", Check.of(-20, -20, 1), 0, 20, -1);
        dueFloors("x x + 20 x + 20", Check.of(20, 20, 1), 0, -2, -19);
        dueFloors("20 x x - 1", Check.of(-1, 0, 20), 0, 0, -1);
        dueFloors("x x - 3 x + 1", Check.of(1, -3, 1), 0, 2, 0);
    }

    private static void floorWrong() {
        RadicalAnswers x = Check.of(1, 0, 1);
        Check.dueThrow("x x + 1: floor(0, true)", Check.ARGUMENT, () -> x.floor(0, true));
        Check.dueThrow("x x + 1: floor(0, false)", Check.ARGUMENT, () -> x.floor(0, false));
        for (int k : new int[] {-1, 1, Integer.MIN_VALUE, Integer.MAX_VALUE}) {
            Check.dueThrow("x x + 1: floor(" + k + ", true)", Check.INDEX, () -> x.floor(k, true));
        }
    }

    private static void compare() {
        RadicalAnswers x = Check.of(6, 0, -5, 0, 1);
        // -root 3, -root 2, root 2, root 3, of the factors x x - 3 and x x - 2.
        int[] k = {0, 1, 1, 0};
        boolean[] upper = {false, false, true, true};
        for (int i = 0; i < 4; i++) {
            for (int j = 0; j < 4; j++) {
                Check.due("roots " + i + ", " + j, x.compare(k[i], upper[i], k[j], upper[j]), Integer.compare(i, j));
            }
        }
        RadicalAnswers y = Check.of(4, -2, -2, 1);
        Check.due("2, root 2", y.compare(0, true, 1, true), 1);
        Check.due("root 2, 2", y.compare(1, true, 0, false), -1);
        Check.due("2, less root 2", y.compare(0, false, 1, false), 1);
        RadicalAnswers z = Check.of(0, -1, 0, 2);
        Check.due("0, root of 1/2", z.compare(0, false, 1, true), -1);
        Check.due("0, less root of 1/2", z.compare(0, true, 1, false), 1);
        Check.due("0, 0", z.compare(0, true, 0, false), 0);
    }

    private static void compareClose() {
        // 7 x - 10 and x x - 2: 1.428.. and 1.414..; 5 x - 7: 1.4.
        RadicalAnswers above = Check.of(20, -14, -10, 7);
        Check.due("10/7, root 2", above.compare(0, true, 1, true), 1);
        RadicalAnswers below = Check.of(14, -10, -7, 5);
        Check.due("7/5, root 2", below.compare(0, true, 1, true), -1);
        Check.due("root 2, 7/5", below.compare(1, true, 0, true), 1);
        // The same middle numbers with other roots: 1 + root 2, 1 + root 3.
        RadicalAnswers same = Check.of(2, 6, 1, -4, 1);
        Check.due("factors with the same b", same.factors(), 2);
        Check.due("1 + root 3, 1 + root 2", same.compare(0, true, 1, true), 1);
        Check.due("1 - root 3, 1 - root 2", same.compare(0, false, 1, false), -1);
        Check.due("1 - root 3, 1 + root 2", same.compare(0, false, 1, true), -1);
    }

    private static void compareWrong() {
        RadicalAnswers x = Check.of(-6, 0, 1, 0, 1);
        Check.dueThrow("compare(0, .., 1, ..)", Check.ARGUMENT, () -> x.compare(0, true, 1, true));
        Check.dueThrow("compare(1, .., 0, ..)", Check.ARGUMENT, () -> x.compare(1, true, 0, true));
        Check.dueThrow("compare(1, .., 1, ..)", Check.ARGUMENT, () -> x.compare(1, true, 1, true));
        for (int k : new int[] {-1, 2, Integer.MIN_VALUE, Integer.MAX_VALUE}) {
            Check.dueThrow("compare(1, .., " + k + ", ..)", Check.INDEX, () -> x.compare(1, true, k, true));
            Check.dueThrow("compare(" + k + ", .., 1, ..)", Check.INDEX, () -> x.compare(k, true, 1, true));
            Check.dueThrow("compare(0, .., " + k + ", ..)", Check.INDEX, () -> x.compare(0, true, k, true));
        }
    }

    private static void clear() {
        RadicalAnswers x = Check.of(1, 2, 3, 4, 5);
        x.factors();
        x.clear();
        Check.dueNumbers("clear", x);
        dueNothing("promise 13, cleared", x);
        x.clear();
        Check.dueNumbers("cleared twice", x);
        Check.due("put behind clear", x.put(1, 3), true);
        Check.due("factors behind clear", x.factors(), 1);
        Check.dueLeft("left behind clear", x, 1);
    }

    /** What was worked out for an equation must not outlive it. */
    private static void changesAreSeen() {
        RadicalAnswers x = Check.of(-2, 0, 1);
        Check.due("x x - 2: floor(0, true)", x.floor(0, true), 1);
        x.put(0, -5);
        Check.due("x x - 5: floor(0, true)", x.floor(0, true), 2);
        x.change(-1);
        Check.due("moved by 1: floor(0, true)", x.floor(0, true), 3);
        x.change(0);
        Check.due("turned about 0: floor(0, true)", x.floor(0, true), 1);
        x.change(2);
        Check.due("turned about: factor(0, 2)", x.factor(0, 2), 4);
        Check.dueThrow("put(0, 21)", Check.ARGUMENT, () -> x.put(0, 21) ? 1 : 0);
        Check.due("behind a wrong put: factor(0, 2)", x.factor(0, 2), 4);
        x.put(2, 0);
        x.put(1, 0);
        x.put(0, 0);
        dueNothing("put to 0", x);
    }
}

/**
 * Long runs of calls, good and bad ones mixed, on one object: put, at, change and clear against rows of
 * numbers kept here, all others against a new object with the same numbers, so that nothing of an earlier
 * equation is ever seen.
 */
public final class WalkTest {
    private static final int CALLS = 512;
    private static final int[][] PASCAL = {{1}, {1, 1}, {1, 2, 1}, {1, 3, 3, 1}, {1, 4, 6, 4, 1}};

    private static long seed = 2026;
    private static int changed = 0;
    private static int unchanged = 0;
    private static int refused = 0;
    private static int answered = 0;

    public static void main(String[] args) {
        for (int walk = 0; walk < 400; walk++) {
            walk(walk);
        }
        Check.due("many changes fit", changed > 5000, true);
        Check.due("many changes don't", unchanged > 2000, true);
        Check.due("many calls are refused", refused > 20000, true);
        Check.due("many calls are answered", answered > 50000, true);
        Check.end();
    }

    private static int next(int bound) {
        seed = seed * 6364136223846793005L + 1442695040888963407L;
        return (int) ((seed >>> 33) % bound);
    }

    /** A number from least to most, now and then one just or far beside them. */
    private static int about(int least, int most) {
        switch (next(24)) {
            case 0:
                return least - 1;
            case 1:
                return most + 1;
            case 2:
                return next(2) == 0 ? Integer.MIN_VALUE : Integer.MAX_VALUE;
            default:
                return least + next(most - least + 1);
        }
    }

    private static void walk(int walk) {
        RadicalAnswers x = new RadicalAnswers();
        int[] numbers = new int[5];
        int limit = walk % 4 == 0 ? 20 : walk % 4;
        for (int call = 1; call <= CALLS; call++) {
            String name = "walk " + walk + ", call " + call;
            switch (next(16)) {
                case 0:
                case 1:
                case 2:
                    put(name, x, numbers, about(0, 4), next(20) == 0 ? about(-20, 20) : about(-limit, limit));
                    break;
                case 3:
                    at(name, x, numbers, about(0, 4));
                    break;
                case 4:
                case 5:
                    change(name, x, numbers, about(-1, 2));
                    break;
                case 6:
                    clearNowAndThen(x, numbers);
                    break;
                default:
                    ask(name, x, numbers);
            }
        }
    }

    private static void put(String name, RadicalAnswers x, int[] numbers, int power, int v) {
        String call = name + ": put(" + power + ", " + v + ")";
        if (power < 0 || power > 4) {
            dueRefused(call, Check.INDEX, () -> x.put(power, v) ? 1 : 0);
        } else if (v < -20 || v > 20) {
            dueRefused(call, Check.ARGUMENT, () -> x.put(power, v) ? 1 : 0);
        } else {
            Check.due(call, x.put(power, v), numbers[power] != v);
            numbers[power] = v;
        }
    }

    private static void at(String name, RadicalAnswers x, int[] numbers, int power) {
        String call = name + ": at(" + power + ")";
        if (power < 0 || power > 4) {
            dueRefused(call, Check.INDEX, () -> x.at(power));
        } else {
            Check.due(call, x.at(power), numbers[power]);
        }
    }

    private static void dueRefused(String call, String want, Check.Call made) {
        refused++;
        Check.dueThrow(call, want, made);
    }

    private static void change(String name, RadicalAnswers x, int[] numbers, int how) {
        String call = name + ": change(" + how + ")";
        if (how < -1 || how > 2) {
            dueRefused(call, Check.ARGUMENT, () -> x.change(how) ? 1 : 0);
            return;
        }
        int[] due = changedRow(numbers, how);
        boolean fits = degreeOf(numbers) >= 0;
        for (int number : due) {
            fits &= Math.abs(number) <= 20;
        }
        Check.due(call, x.change(how), fits);
        if (fits) {
            System.arraycopy(due, 0, numbers, 0, due.length);
            changed++;
        } else {
            unchanged++;
        }
    }

    private static int degreeOf(int[] numbers) {
        int degree = numbers.length - 1;
        while (degree >= 0 && numbers[degree] == 0) {
            degree--;
        }
        return degree;
    }

    private static int[] changedRow(int[] numbers, int how) {
        int degree = degreeOf(numbers);
        int[] row = new int[5];
        for (int power = 0; power <= degree; power++) {
            if (how == 2) {
                row[degree - power] = numbers[power];
            } else if (how == 0) {
                row[power] = power % 2 == 0 ? numbers[power] : -numbers[power];
            } else {
                for (int i = 0; i <= power; i++) {
                    row[i] += numbers[power] * PASCAL[power][i] * ((power - i) % 2 == 0 ? 1 : how);
                }
            }
        }
        return row;
    }

    private static void clearNowAndThen(RadicalAnswers x, int[] numbers) {
        if (next(6) == 0) {
            x.clear();
            java.util.Arrays.fill(numbers, 0);
        } else {
            x.at(0);
        }
    }

    private static void ask(String name, RadicalAnswers x, int[] numbers) {
        int what = next(8);
        int one = about(0, what == 3 ? 4 : next(3));
        int two = about(0, what == 1 ? 5 : 1);
        int three = about(0, 1);
        boolean upper = next(2) == 0;
        boolean other = next(2) == 0;
        RadicalAnswers fresh = Check.of(numbers);
        String due = told(() -> asked(fresh, what, one, two, three, upper, other));
        String got = told(() -> asked(x, what, one, two, three, upper, other));
        if (due.endsWith("Exception")) {
            refused++;
        } else {
            answered++;
        }
        String call = name + ": " + what + " of " + one + ", " + two + ", " + three + ", " + upper + ", " + other;
        Check.due(call + ": " + got + " is due to be " + due, got.equals(due), true);
    }

    private static long asked(RadicalAnswers x, int what, int one, int two, int three, boolean upper, boolean other) {
        switch (what) {
            case 0:
                return x.factors();
            case 1:
                return x.factor(one, two);
            case 2:
                return x.content();
            case 3:
                return x.left(one);
            case 4:
                return x.answer(one, two, three);
            case 5:
                return x.real();
            case 6:
                return x.floor(one, upper);
            default:
                return x.compare(one, upper, two, other);
        }
    }

    private static String told(Check.Call made) {
        try {
            return String.valueOf(made.answer());
        } catch (RuntimeException e) {
            return e.getClass().getSimpleName();
        }
    }
}

/** Counts and prints the calls whose answer is not the one that is due. */
final class Check {
    interface Call {
        long answer();
    }

    interface CallOn {
        long answer(RadicalAnswers one);
    }

    static final String STATE = "IllegalStateException";
    static final String INDEX = "IndexOutOfBoundsException";
    static final String ARGUMENT = "IllegalArgumentException";

    private static int checked = 0;
    private static int wrong = 0;

    private Check() {
    }

    static void due(String call, long got, long want) {
        checked++;
        if (got != want) {
            tell(call, String.valueOf(got), String.valueOf(want));
        }
    }

    static void due(String call, boolean got, boolean want) {
        due(call, got ? 1 : 0, want ? 1 : 0);
    }

    static void dueThrow(String call, String want, Call made) {
        checked++;
        String got;
        try {
            got = String.valueOf(made.answer());
        } catch (RuntimeException e) {
            // The exact class: a machine's ArrayIndexOutOfBoundsException is not what is due.
            got = e.getClass().getSimpleName();
        }
        if (!got.equals(want)) {
            tell(call, got, want);
        }
    }

    /** The call throws this, and the object answers every other call as it did before. */
    static void dueRefused(String call, String want, RadicalAnswers x, Call made) {
        String before = stateOf(x);
        dueThrow(call, want, made);
        dueState("behind " + call, x, before);
    }

    /** The same on an object of its own: what an object answers behind its 512th call is free. */
    static void dueRefused(String call, String want, int[] numbers, CallOn made) {
        RadicalAnswers one = of(numbers);
        dueRefused(call, want, one, () -> made.answer(one));
    }

    static void dueState(String call, RadicalAnswers x, String want) {
        checked++;
        String got = stateOf(x);
        if (!got.equals(want)) {
            tell(call, got, want);
        }
    }

    /** All that can be asked of the object, as a text. */
    static String stateOf(RadicalAnswers x) {
        StringBuilder text = new StringBuilder("at");
        boolean isZero = true;
        for (int power = 0; power <= 4; power++) {
            text.append(' ').append(x.at(power));
            isZero &= x.at(power) == 0;
        }
        if (isZero) {
            return text.toString();
        }
        text.append("; content ").append(x.content()).append("; real ").append(x.real()).append("; left");
        for (int power = 0; power <= 4; power++) {
            text.append(' ').append(x.left(power));
        }
        for (int k = 0; k < x.factors(); k++) {
            text.append("; factor");
            for (int what = 0; what <= 5; what++) {
                text.append(' ').append(x.factor(k, what));
            }
            for (int i = 0; i < 4; i++) {
                text.append(' ').append(x.answer(k, i / 2, i % 2));
            }
        }
        return text.toString();
    }

    private static void tell(String call, String got, String want) {
        wrong++;
        if (wrong <= 50) {
            System.out.println(call + " answered " + got + ", due is " + want);
        }
    }

    static void end() {
        System.out.println(wrong + " of " + checked + " answers are not as due");
        if (wrong != 0 || checked == 0) {
            System.exit(1);
        }
    }

    /** An object with these numbers, the one at power 0 first. */
    static RadicalAnswers of(int... numbers) {
        RadicalAnswers x = new RadicalAnswers();
        for (int i = 0; i < numbers.length; i++) {
            x.put(i, numbers[i]);
        }
        return x;
    }

    static void dueNumbers(String call, RadicalAnswers x, int... want) {
        for (int i = 0; i <= 4; i++) {
            due(call + ": at(" + i + ")", x.at(i), i < want.length ? want[i] : 0);
        }
    }

    static void dueLeft(String call, RadicalAnswers x, int... want) {
        for (int i = 0; i <= 4; i++) {
            due(call + ": left(" + i + ")", x.left(i), i < want.length ? want[i] : 0);
        }
    }

    /** Degree, multiplicity, a, b, c, D. */
    static void dueFactor(String call, RadicalAnswers x, int k, int... want) {
        for (int what = 0; what < want.length; what++) {
            due(call + ": factor(" + k + ", " + what + ")", x.factor(k, what), want[what]);
        }
    }

    /** P above, P below, Q above, Q below. */
    static void dueAnswer(String call, RadicalAnswers x, int k, int... want) {
        for (int i = 0; i < 4; i++) {
            due(call + ": answer(" + k + ", " + i / 2 + ", " + i % 2 + ")", x.answer(k, i / 2, i % 2), want[i]);
        }
    }
}

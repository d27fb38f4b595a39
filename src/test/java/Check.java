/** Counts and prints the calls whose answer is not the one that is due. */
final class Check {
    interface Call {
        long answer();
    }

    static final String STATE = "IllegalStateException";
    static final String INDEX = "IndexOutOfBoundsException";
    static final String ARGUMENT = "IllegalArgumentException";

    private static int checked = 0;
    private static int wrong = 0;

    private Check() {
    }

    static void due(String call, long got, long want) {
        checked++;
        if (got != want) {
            tell(call, String.valueOf(got), String.valueOf(want));
        }
    }

    static void due(String call, boolean got, boolean want) {
        due(call, got ? 1 : 0, want ? 1 : 0);
    }

    static void dueThrow(String call, String want, Call made) {
        checked++;
        String got;
        try {
            got = String.valueOf(made.answer());
        } catch (RuntimeException e) {
            // The exact class: a machine's ArrayIndexOutOfBoundsException is not what is due.
            got = e.getClass().getSimpleName();
        }
        if (!got.equals(want)) {
            tell(call, got, want);
        }
    }

    private static void tell(String call, String got, String want) {
        wrong++;
        if (wrong <= 50) {
            System.out.println(call + " answered " + got + ", due is " + want);
        }
    }

    static void end() {
        System.out.println(wrong + " of " + checked + " answers are not as due");
        if (wrong != 0 || checked == 0) {
            System.exit(1);
        }
    }

    /** An object with these numbers, the one at power 0 first. */
    static RadicalAnswers of(int... numbers) {
        RadicalAnswers x = new RadicalAnswers();
        for (int i = 0; i < numbers.length; i++) {
            x.put(i, numbers[i]);
        }
        return x;
    }

    static void dueNumbers(String call, RadicalAnswers x, int... want) {
        for (int i = 0; i <= 4; i++) {
            due(call + ": at(" + i + ")", x.at(i), i < want.length ? want[i] : 0);
        }
    }

    static void dueLeft(String call, RadicalAnswers x, int... want) {
        for (int i = 0; i <= 4; i++) {
            due(call + ": left(" + i + ")", x.left(i), i < want.length ? want[i] : 0);
        }
    }

    /** Degree, multiplicity, a, b, c, D. */
    static void dueFactor(String call, RadicalAnswers x, int k, int... want) {
        for (int what = 0; what < want.length; what++) {
            due(call + ": factor(" + k + ", " + what + ")", x.factor(k, what), want[what]);
        }
    }

    /** P above, P below, Q above, Q below. */
    static void dueAnswer(String call, RadicalAnswers x, int k, int... want) {
        for (int i = 0; i < 4; i++) {
            due(call + ": answer(" + k + ", " + i / 2 + ", " + i % 2 + ")", x.answer(k, i / 2, i % 2), want[i]);
        }
    }
}

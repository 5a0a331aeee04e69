/** Counts the answers that are not as due, and ends a test with exit code 1 if there was one. */
final class Check {
    /** A call whose answer, or exception, is looked at. */
    interface Call {
        Object answer();
    }

    static final Class<IllegalArgumentException> ARGUMENT = IllegalArgumentException.class;
    static final Class<IllegalStateException> STATE = IllegalStateException.class;
    static final Class<IndexOutOfBoundsException> INDEX = IndexOutOfBoundsException.class;
    static final Class<java.util.NoSuchElementException> NO_SUCH = java.util.NoSuchElementException.class;
    static final Class<ArithmeticException> ARITHMETIC = ArithmeticException.class;

    private final String name;
    private int promise;
    private int looks;
    private int wrong;

    Check(String name) {
        this.name = name;
    }

    /** The promise that the next looks are about. */
    void promise(int number) {
        promise = number;
    }

    /** Want is a number, a boolean, or the class of the exception that is due. */
    void due(String what, Object want, Call call) {
        looks++;
        Object got = answerOf(call);
        if (!sameForm(got).equals(sameForm(want))) {
            wrong++;
            System.out.println(name + ", promise " + promise + ": " + what + " answered " + got + ", due is " + want);
        }
    }

    /** Looks at a call that comes to a fraction: at its sign and at both numbers. */
    void dueFraction(String what, Queueward x, long above, long below, Call call) {
        due(what, Long.signum(above), call);
        due(what + ", above", above, () -> x.result(false));
        due(what + ", below", below, () -> x.result(true));
    }

    /** Looks at a call that comes to a fraction whose numbers may be no longs: at what write() makes of it. */
    void dueText(String what, Queueward x, String fraction, Call call) {
        due(what, fraction.startsWith("0/") ? 0 : 1, call);
        due(what + ", written", (long) fraction.length(), x::write);
        due(what + ", on the tape", fraction, () -> tapeOf(x));
    }

    static Object answerOf(Call call) {
        try {
            return call.answer();
        } catch (RuntimeException e) {
            return e.getClass();
        }
    }

    private static Object sameForm(Object answer) {
        return answer instanceof Integer ? (Object) (long) (Integer) answer : answer;
    }

    static String tapeOf(Queueward x) {
        StringBuilder tape = new StringBuilder();
        for (int i = 0; i <= 900; i++) {
            int index = i;
            Object sign = answerOf(() -> x.signAt(index));
            if (!(sign instanceof Integer)) {
                break;
            }
            tape.append((char) (int) (Integer) sign);
        }
        return tape.toString();
    }

    /** Puts a text behind the tape, seven signs a call. */
    static void typeText(Queueward x, String text) {
        for (int from = 0; from < text.length(); from += 7) {
            x.type(packed(text.substring(from, Math.min(from + 7, text.length()))));
        }
    }

    static long packed(String signs) {
        long number = 0;
        for (int i = 0; i < signs.length(); i++) {
            number = number << 8 | signs.charAt(i);
        }
        return number;
    }

    void end() {
        System.out.println(name + ": " + looks + " looks, " + wrong + " wrong");
        if (wrong != 0) {
            System.exit(1);
        }
    }
}

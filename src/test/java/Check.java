import java.util.function.IntConsumer;

/** Compares answers with what is due, prints each that is not, and ends the test. */
final class Check {
    static final Class<? extends RuntimeException> ILLEGAL = IllegalArgumentException.class;
    static final Class<? extends RuntimeException> STATE = IllegalStateException.class;
    static final Class<? extends RuntimeException> INDEX = IndexOutOfBoundsException.class;

    private static int checks = 0;
    private static int wrong = 0;

    private Check() {
    }

    static void due(String call, long got, long want) {
        checks++;
        if (got != want) {
            report(call + " answered " + got + ", due is " + want);
        }
    }

    static void due(String call, boolean got, boolean want) {
        due(call, got ? 1 : 0, want ? 1 : 0);
    }

    /** Floats are compared by their bits, so that 0 and -0 differ. */
    static void dueFloat(String call, float got, float want) {
        checks++;
        if (Float.floatToRawIntBits(got) != Float.floatToRawIntBits(want)) {
            report(call + " answered " + got + ", due is " + want);
        }
    }

    /** The very class of the exception is due, none below it. */
    static void dueThrow(String call, Class<? extends RuntimeException> want, Runnable doing) {
        checks++;
        try {
            doing.run();
        } catch (RuntimeException thrown) {
            if (thrown.getClass() != want) {
                report(call + " threw " + thrown.getClass().getName() + ", due is " + want.getName());
            }
            return;
        }
        report(call + " threw nothing, due is " + want.getName());
    }

    /** The range's ends are taken; what is beside them, and the ends of int, are not. */
    static void dueRange(String call, int least, int most, Class<? extends RuntimeException> want,
            IntConsumer doing) {
        taken(call, least, doing);
        taken(call, most, doing);
        int[] outside = {least - 1, most + 1, Integer.MIN_VALUE, Integer.MAX_VALUE};
        for (int number : outside) {
            dueThrow(call + " for " + number, want, () -> doing.accept(number));
        }
    }

    private static void taken(String call, int number, IntConsumer doing) {
        checks++;
        try {
            doing.accept(number);
        } catch (RuntimeException thrown) {
            report(call + " for " + number + " threw " + thrown.getClass().getName());
        }
    }

    private static void report(String text) {
        wrong++;
        if (wrong <= 50) {
            System.out.println(text);
        }
    }

    static void end() {
        System.out.println(checks + " checks, " + wrong + " wrong");
        if (wrong != 0) {
            System.exit(1);
        }
    }
}

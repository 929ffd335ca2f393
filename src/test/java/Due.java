/** Compares answers with those that are due; the tests share it. */
final class Due {
    private static int wrong = 0;

    private Due() {
    }

    static void is(String call, int got, int want) {
        if (got != want) {
            report(call + " answered " + got + ", due is " + want);
        }
    }

    static void is(String call, boolean got, boolean want) {
        if (got != want) {
            report(call + " answered " + got + ", due is " + want);
        }
    }

    static void report(String fault) {
        wrong++;
        System.out.println(fault);
    }

    static void end() {
        if (wrong != 0) {
            System.out.println(wrong + " answers are not as due");
            System.exit(1);
        }
    }
}

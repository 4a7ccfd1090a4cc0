/** What a test found: each answer that is not as due is printed, and ends the test with exit code 1. */
final class Due {
    private static int looked = 0;
    private static int wrong = 0;

    private Due() {
    }

    static void is(String call, long got, long want) {
        looked++;
        if (got != want) {
            wrong++;
            System.out.println(call + " answered " + got + ", due is " + want);
        }
    }

    static void holds(String what, boolean so) {
        is(what, so ? 1 : 0, 1);
    }

    static int wrongs() {
        return wrong;
    }

    static void end() {
        System.out.println(looked + " looked at, " + wrong + " not as due");
        if (wrong != 0) {
            System.exit(1);
        }
    }
}

/** Counts answers that are not the ones due, and ends a test accordingly. */
final class Check {
    private static int wrong = 0;
    private static int asked = 0;

    private Check() {}

    static void due(String call, long got, long want) {
        asked++;
        if (got != want) {
            wrong++;
            if (wrong <= 50) {
                System.out.println(call + " answered " + got + ", due is " + want);
            }
        }
    }

    static void due(String call, boolean got, boolean want) {
        due(call, got ? 1L : 0L, want ? 1L : 0L);
    }

    static void due(String call, String got, String want) {
        if (!got.equals(want)) {
            System.out.println(call + ": got \"" + got + "\", due is \"" + want + "\"");
        }
        due(call, got.equals(want), true);
    }

    static void end() {
        System.out.println(asked + " answers, " + wrong + " wrong");
        if (wrong != 0) {
            System.exit(1);
        }
    }
}

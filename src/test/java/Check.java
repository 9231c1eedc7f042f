/** Counts what the tests found, and says it in one closing line. */
final class Check {
    private static int passed = 0;
    private static int failed = 0;

    private Check() {
    }

    static void due(String what, long want, long got) {
        if (want == got) {
            passed++;
            return;
        }
        failed++;
        // A broken program may fail thousands of times; the first ones tell enough.
        if (failed <= 40) {
            System.out.println("FAILED " + what + ": answered " + got + ", due is " + want);
        }
    }

    static void fail(String what) {
        due(what, 1, 0);
    }

    static int failures() {
        return failed;
    }

    static void close(String suite) {
        System.out.println(suite + ": " + passed + " passed, " + failed + " failed");
        if (failed > 0 || passed == 0) {
            System.exit(1);
        }
    }
}

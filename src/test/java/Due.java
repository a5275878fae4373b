import java.util.List;

/** Compares answers with the ones that are due; every test of the project counts its faults here. */
final class Due {
    private static int wrong = 0;

    private Due() {
    }

    static void is(String what, long got, long want) {
        if (got != want) {
            wrong++;
            System.out.println(what + " answered " + got + ", due is " + want);
        }
    }

    static void is(String what, boolean got, boolean want) {
        is(what, got ? 1L : 0L, want ? 1L : 0L);
    }

    /** Two lists of calls with their answers; the calls are the same, so that the rows stand side by side. */
    static void same(String when, List<String> got, List<String> want) {
        is(when + ": number of calls", got.size(), want.size());
        for (int row = 0; row < got.size() && row < want.size(); row++) {
            if (!got.get(row).equals(want.get(row))) {
                wrong++;
                System.out.println(when + ": " + got.get(row) + ", due is " + want.get(row));
            }
        }
    }

    static boolean allRight() {
        return wrong == 0;
    }

    static void end() {
        System.out.println(wrong == 0 ? "all answers are as due" : wrong + " answers are not as due");
        if (wrong != 0) {
            System.exit(1);
        }
    }
}

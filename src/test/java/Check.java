/** Compares answers with what is due, and ends the program with 1 if one was wrong. */
final class Check {
    private int wrong;
    private int checked;

    void due(String call, long got, long want) {
        checked++;
        if (got != want) {
            wrong++;
            System.out.println(call + " answered " + got + ", due is " + want);
        }
    }

    void due(String call, String got, String want) {
        checked++;
        if (!got.equals(want)) {
            wrong++;
            System.out.println(call + ": " + got + ", due is " + want);
        }
    }

    void end() {
        System.out.println(wrong == 0 ? checked + " answers are as due" : wrong + " of " + checked + " are not as due");
        if (wrong != 0) {
            System.exit(1);
        }
    }
}

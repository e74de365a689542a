import java.util.function.ToIntFunction;

/** Compares answers with what is due, and ends the program with 1 if one was wrong. */
final class Check {
    private int wrong;
    private int checked;
    private String about = "";

    /** What the next answers are about; it is told with those that are wrong. */
    void about(String words) {
        about = words.isEmpty() ? "" : "\"" + words + "\" ";
    }

    void due(String call, long got, long want) {
        checked++;
        if (got != want) {
            wrong++;
            System.out.println(about + call + " answered " + got + ", due is " + want);
        }
    }

    void due(String call, String got, String want) {
        checked++;
        if (!got.equals(want)) {
            wrong++;
            System.out.println(about + call + ": " + firstDifference(got, want));
        }
    }

    private static String firstDifference(String got, String want) {
        String[] ofGot = got.split("\n");
        String[] ofWant = want.split("\n");
        int line = 0;
        while (line < ofGot.length && line < ofWant.length && ofGot[line].equals(ofWant[line])) {
            line++;
        }
        return (line < ofGot.length ? ofGot[line] : "nothing") + ", due is "
                + (line < ofWant.length ? ofWant[line] : "nothing");
    }

    /** A call is answered with an error, and changes nothing of the object, its pad, its history and its slots. */
    void refused(String call, Told x, ToIntFunction<Told> refused, int error) {
        Told y = x.again();
        due(call, refused.applyAsInt(y), error);
        due(call + " changes nothing", Look.whole(y), Look.whole(x));
    }

    void end() {
        System.out.println(wrong == 0 ? checked + " answers are as due" : wrong + " of " + checked + " are not as due");
        if (wrong != 0) {
            System.exit(1);
        }
    }
}

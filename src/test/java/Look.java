import java.util.function.ToIntFunction;

/** What the tests need to look at a whole object, and to write texts; what is looked at is not called. */
final class Look {
    static final int NOTES = 24, READERS = 16;

    private final Told x;
    private final StringBuilder seen = new StringBuilder();
    private Told asked;

    private Look(Told x) {
        this.x = x;
        asked = x.again();
    }

    private int ask(ToIntFunction<Told> question) {
        if (asked.callsLeft() == 0) {
            asked = x.again();
        }
        int answer = question.applyAsInt(asked);
        seen.append(' ').append(answer);
        return answer;
    }

    private void askOfReader(int reader) {
        seen.append("\nreader ").append(reader).append(':');
        for (int what = 6; what >= 1; what--) {
            int each = what;
            ask(y -> y.ofReader(reader, each));
        }
        int copies = ask(y -> y.ofReader(reader, 0));
        for (int i = 0; i < 3 * copies; i++) {
            int place = i / 3;
            int what = i % 3;
            ask(y -> y.onShelf(reader, place, what));
        }
    }

    private void askOfNote(int note) {
        seen.append("\nnote ").append(note).append(':');
        for (int what = 0; what <= 8; what++) {
            int each = what;
            ask(y -> y.ofNote(note, each));
        }
    }

    private void askOfAccount() {
        seen.append("\naccount:");
        for (int names = 0; names <= 4; names++) {
            for (int size = 1; size <= 8; size += 1 + names) {
                int n = names;
                int s = size;
                ask(y -> y.accountWith(n, s));
            }
        }
        asked = x.again();
        ask(Told::account);
        asked = x.again();
    }

    /** Everything that can be asked, but for the pad and the history. */
    static String state(Told x) {
        Look look = new Look(x);
        look.seen.append("counts:");
        for (int what = 0; what <= 10; what++) {
            int each = what;
            look.ask(y -> y.count(each));
        }
        for (int note = 0; note < NOTES; note++) {
            look.askOfNote(note);
        }
        for (int reader = 0; reader < READERS; reader++) {
            look.askOfReader(reader);
        }
        look.askOfAccount();
        return look.seen.toString();
    }

    /** The pad and the history's length as well. */
    static String everything(Told x) {
        Look look = new Look(x);
        look.seen.append("pad, fault, history:");
        look.ask(y -> y.count(11));
        look.ask(Told::fault);
        look.ask(y -> y.count(12));
        return look.seen + "\n" + state(x);
    }

    /** What the pad's orders, the history and the slots would bring as well. */
    static String whole(Told x) {
        StringBuilder all = new StringBuilder(everything(x));
        Told y = x.again();
        for (int left = y.undo(); left >= 0; left = y.undo()) {
            all.append("\n-- undone, ").append(left).append(" left\n").append(state(y));
        }
        y = x.again();
        all.append("\n-- carried out: ").append(y.carryOut()).append('\n').append(state(y));
        for (int slot = 0; slot < 2; slot++) {
            y = x.again();
            all.append("\n-- slot ").append(slot).append(": ").append(y.restore(slot)).append('\n').append(state(y));
        }
        return all.toString();
    }

    /** The notes on a shelf, the one that was used longest ago first. */
    static String shelf(Told x, int reader) {
        Told y = x.again();
        StringBuilder notes = new StringBuilder();
        int copies = y.ofReader(reader, 0);
        for (int place = 0; place < copies; place++) {
            notes.append(place == 0 ? "" : " ").append(y.onShelf(reader, place, 0));
        }
        return notes.toString();
    }

    /** Puts a text of any length on the pad; the answer to the last put(). */
    static int put(Told x, String text) {
        int answer = 0;
        for (int from = 0; from < text.length(); from += 8) {
            answer = x.put(pack(text.substring(from, Math.min(text.length(), from + 8))));
        }
        return answer;
    }

    static long pack(String upToEight) {
        long packed = 0;
        for (int i = 0; i < upToEight.length(); i++) {
            packed = packed << 8 | upToEight.charAt(i);
        }
        return packed;
    }

    static int faultOf(String text) {
        Told x = new Told();
        put(x, text);
        return x.fault();
    }
}

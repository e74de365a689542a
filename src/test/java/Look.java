/** What the tests need to look at a whole object, and to write texts. */
final class Look {
    static final int NOTES = 24, READERS = 16;

    private Look() {
    }

    /** Everything that can be asked without a change, but the pad and the history. */
    static String state(ShoutGroups x) {
        StringBuilder all = new StringBuilder();
        for (int what = 0; what <= 10; what++) {
            all.append(x.count(what)).append(' ');
        }
        for (int note = 0; note < NOTES; note++) {
            all.append("\nnote ").append(note).append(':');
            for (int what = 0; what <= 8; what++) {
                all.append(' ').append(x.ofNote(note, what));
            }
        }
        for (int reader = 0; reader < READERS; reader++) {
            all.append("\nreader ").append(reader).append(':');
            for (int what = 0; what <= 6; what++) {
                all.append(' ').append(x.ofReader(reader, what));
            }
            for (int place = 0; place < x.ofReader(reader, 0); place++) {
                all.append(" [").append(x.onShelf(reader, place, 0)).append(' ').append(x.onShelf(reader, place, 1))
                        .append(' ').append(x.onShelf(reader, place, 2)).append(']');
            }
        }
        all.append("\naccount:");
        for (int names = 0; names <= 4; names++) {
            for (int size = 1; size <= 8; size++) {
                all.append(' ').append(x.accountWith(names, size));
            }
        }
        return all.toString();
    }

    /** The pad and the history as well. */
    static String everything(ShoutGroups x) {
        return state(x) + "\npad " + x.count(11) + " fault " + x.fault() + " history " + x.count(12);
    }

    /** Puts a text of any length on the pad; the answer to the last put(). */
    static int put(ShoutGroups x, String text) {
        int answer = x.count(11);
        for (int from = 0; from < text.length(); from += 8) {
            answer = x.put(pack(text.substring(from, Math.min(text.length(), from + 8))));
        }
        return answer;
    }

    static long pack(String upToEight) {
        long packed = 0;
        for (int i = 0; i < upToEight.length(); i++) {
            packed = packed << 8 | upToEight.charAt(i);
        }
        return packed;
    }

    static int faultOf(String text) {
        ShoutGroups x = new ShoutGroups();
        put(x, text);
        return x.fault();
    }
}

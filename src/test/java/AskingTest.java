/** Promises 7 to 10: ofNote, onShelf, ofReader, count. */
public final class AskingTest {
    private static final Check check = new Check();

    public static void main(String[] args) {
        ofNote();
        onShelf();
        ofReader();
        count();
        errors();
        check.end();
    }

    private static void row(String name, Told x, int note, int... due) {
        for (int what = 0; what < due.length; what++) {
            check.due(name + ": ofNote(" + note + ", " + what + ")", x.ofNote(note, what), due[what]);
        }
    }

    private static void ofNote() {
        Told x = new Told();
        x.set(ShoutGroups.SIZE, 7);
        row("BLANK", x, 23, 0, 0, 0, 0, 0, 0, 0, 0, 0);
        x.change(14, 23, 99);
        row("OWNED", x, 23, 0, 3, 1 << 14, 1 << 14, 1 << 14, 0, 99, 0, 0);
        x.read(2, 23);
        row("NAMED", x, 23, 99, 1, 4, 4, 4, 0, 99, 1, 0);
        x.read(3, 23);
        x.putBack(3, 23);
        row("NAMED, one without", x, 23, 99, 1, 12, 12, 4, 1, 99, 1, 0);
        x.read(14, 23);
        row("GROUPED", x, 23, 99, 2, 5, 0xc07f, 1 << 14 | 4, 7, 99, 1, 0);
        x.change(2, 23, 100);
        row("OWNED again", x, 23, 99, 3, 4, 4, 4, 0, 100, 2, 8);
        x.change(0, 0, 7);
        row("OWNED by the first", x, 0, 0, 3, 1, 1, 1, 0, 7, 0, 0);
        x.change(15, 0, 8);
        row("OWNED by the last", x, 0, 7, 3, 1 << 15, 1 << 15, 1 << 15, 0, 8, 1, 0);
    }

    private static void onShelf() {
        Told x = new Told();
        x.change(6, 1, 10);
        x.change(0, 2, 20);
        x.putBack(0, 2);
        x.read(6, 2);
        int[][] due = {{1, 10, 1}, {2, 20, 0}};
        for (int place = 0; place < 2; place++) {
            for (int what = 0; what < 3; what++) {
                check.due("onShelf(6, " + place + ", " + what + ")", x.onShelf(6, place, what), due[place][what]);
            }
        }
        check.due("no third", x.onShelf(6, 2, 0), ShoutGroups.NO_SUCH);
        x.read(6, 1);
        check.due("the changed copy is used last", x.onShelf(6, 1, 0), 1);
        check.due("its value", x.onShelf(6, 1, 1), 10);
        check.due("it is changed", x.onShelf(6, 1, 2), 1);
        check.due("the other one is not", x.onShelf(6, 0, 2), 0);
    }

    private static void ofReader() {
        Told x = new Told();
        x.set(ShoutGroups.SIZE, 3);
        x.set(ShoutGroups.NAMES, 1);
        check.due("group of 15", x.ofReader(15, 1), 5);
        check.due("group of 2", x.ofReader(2, 1), 0);
        x.read(1, 0);
        x.read(4, 0);
        x.read(1, 3);
        x.change(1, 5, 1);
        x.change(1, 5, 2);
        x.read(1, 5);
        x.read(1, 3);
        x.change(1, 0, 1);
        int[] one = {3, 0, 7, 3, 0, 0, 1 | 1 << 3 | 1 << 5};
        int[] four = {0, 1, 1, 0, 1, 0, 0};
        int[] five = {0, 1, 0, 0, 0, 1, 0};
        for (int what = 0; what <= 6; what++) {
            check.due("ofReader(1, " + what + ")", x.ofReader(1, what), one[what]);
            check.due("ofReader(4, " + what + ")", x.ofReader(4, what), four[what]);
            check.due("ofReader(5, " + what + ")", x.ofReader(5, what), five[what]);
        }
        x.read(7, 23);
        x.read(9, 23);
        check.due("a group's other reader is called", x.ofReader(11, 6), 1 << 23);
        check.due("another group's is not", x.ofReader(12, 6), 0);
    }

    private static void count() {
        Told x = new Told();
        x.set(ShoutGroups.FORGET, 1);
        x.set(ShoutGroups.SIZE, 2);
        x.set(ShoutGroups.ROOM, 8);
        x.set(ShoutGroups.NAMES, 1);
        x.read(0, 0);
        x.read(2, 0);
        x.read(0, 1);
        x.change(5, 2, 2);
        x.change(6, 0, 3);
        x.read(8, 7);
        x.read(9, 7);
        x.put('r');
        // 5 readings, 2 changes; the change of 0 shouts to 0, 1, 2, 3, of whom two answer.
        int[] due = {7 * 2 + 6, 2, 4, 5, 2, 4, 1, 1, 2, 8, 1, 1, 6};
        for (int what = 0; what < due.length; what++) {
            check.due("count(" + what + ")", x.count(what), due[what]);
        }
        x.change(0, 20, 1);
        check.due("changed ones on the first shelf, too", x.count(4), 3);
        x.change(15, 21, 1);
        check.due("and on the last", x.count(4), 4);
        x.putBack(15, 21);
        check.due("none where a changed one was", x.count(4), 3);
        x.recall(7);
        x.read(3, 0);
        x.read(4, 0);
        check.due("the first card GROUPED", x.count(6), 1);
    }

    private static void errors() {
        Told x = new Told();
        x.read(0, 0);
        for (int bad : new int[] {-1, 9, Integer.MIN_VALUE, Integer.MAX_VALUE}) {
            check.due("ofNote(0, " + bad + ")", x.ofNote(0, bad), ShoutGroups.BAD_VALUE);
        }
        for (int bad : new int[] {-1, 24, Integer.MIN_VALUE, Integer.MAX_VALUE}) {
            check.due("ofNote(" + bad + ", 9)", x.ofNote(bad, 9), ShoutGroups.NO_SUCH);
        }
        for (int bad : new int[] {-1, 3, Integer.MIN_VALUE, Integer.MAX_VALUE}) {
            check.due("onShelf(0, 0, " + bad + ")", x.onShelf(0, 0, bad), ShoutGroups.BAD_VALUE);
        }
        for (int bad : new int[] {-1, 1, 8, Integer.MIN_VALUE, Integer.MAX_VALUE}) {
            check.due("onShelf(0, " + bad + ", 3)", x.onShelf(0, bad, 3), ShoutGroups.NO_SUCH);
        }
        for (int bad : new int[] {-1, 7, Integer.MIN_VALUE, Integer.MAX_VALUE}) {
            check.due("ofReader(0, " + bad + ")", x.ofReader(0, bad), ShoutGroups.BAD_VALUE);
        }
        for (int bad : new int[] {-1, 16, Integer.MIN_VALUE, Integer.MAX_VALUE}) {
            check.due("onShelf(" + bad + ", 0, 3)", x.onShelf(bad, 0, 3), ShoutGroups.NO_SUCH);
            check.due("ofReader(" + bad + ", 7)", x.ofReader(bad, 7), ShoutGroups.NO_SUCH);
        }
        for (int bad : new int[] {-1, 13, Integer.MIN_VALUE, Integer.MAX_VALUE}) {
            check.due("count(" + bad + ")", x.count(bad), ShoutGroups.BAD_VALUE);
        }
        check.due("asking changes nothing", x.count(0) + x.count(12), 3);
    }
}

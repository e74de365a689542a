/** Promises 3 to 6: read, change, putBack, recall. */
public final class HappeningTest {
    private static final int BLANK = ShoutGroups.BLANK, NAMED = ShoutGroups.NAMED;
    private static final int GROUPED = ShoutGroups.GROUPED, OWNED = ShoutGroups.OWNED;
    private static final Check check = new Check();

    public static void main(String[] args) {
        readAndUse();
        readFromOwner();
        writeOnCards();
        changeAndOwn();
        changeWithGroups();
        roomForChanges();
        putBackNamed();
        putBackOwned();
        putBackGrouped();
        forgottenCopies();
        recallNamed();
        recallGrouped();
        errors();
        check.end();
    }

    private static void card(Told x, int note, int kind, int names) {
        check.due("card of " + note, x.ofNote(note, 1), kind);
        check.due("names for " + note, x.ofNote(note, 2), names);
    }

    private static void readAndUse() {
        Told x = new Told();
        check.due("read(3, 7)", x.read(3, 7), 0);
        check.due("two messages", x.count(0), 2);
        card(x, 7, NAMED, 1 << 3);
        check.due("read(3, 8)", x.read(3, 8), 0);
        check.due("oldest", x.onShelf(3, 0, 0), 7);
        check.due("read(3, 7) again", x.read(3, 7), 0);
        check.due("no message", x.count(0), 4);
        check.due("used last", x.onShelf(3, 1, 0), 7);
        check.due("oldest now", x.onShelf(3, 0, 0), 8);
        check.due("readings", x.ofReader(3, 2), 3);
        check.due("quiet ones", x.ofReader(3, 3), 1);
        x.read(3, 9);
        check.due("three copies", x.ofReader(3, 0), 3);
        x.read(3, 10);
        check.due("still three copies", x.ofReader(3, 0), 3);
        check.due("8 went without a word", x.count(0), 8);
        check.due("8 has no copy", x.ofNote(8, 4), 0);
        card(x, 8, NAMED, 1 << 3);
        check.due("a named reader without a copy reads", x.read(3, 8), 0);
        card(x, 8, NAMED, 1 << 3);
        check.due("two messages more", x.count(0), 10);
        check.due("reads are changes", x.count(12), 6);
    }

    private static void readFromOwner() {
        Told x = new Told();
        check.due("change(2, 5, 77)", x.change(2, 5, 77), 2);
        check.due("library's value", x.ofNote(5, 0), 0);
        check.due("the owner reads", x.read(2, 5), 77);
        check.due("quietly", x.count(0), 2);
        check.due("still changed", x.onShelf(2, 0, 2), 1);
        card(x, 5, OWNED, 1 << 2);
        check.due("another reads", x.read(9, 5), 77);
        check.due("four messages", x.count(0), 6);
        check.due("none wasted", x.count(1), 0);
        check.due("no shout", x.count(2), 0);
        check.due("the owner has no copy", x.ofReader(2, 0), 0);
        check.due("library has the value", x.ofNote(5, 0), 77);
        card(x, 5, NAMED, 1 << 9);
        check.due("called back", x.ofNote(5, 7), 1);
        check.due("called back from 2", x.ofReader(2, 4), 1);
        check.due("the copy is not changed", x.onShelf(9, 0, 2), 0);
        check.due("value of the copy", x.onShelf(9, 0, 1), 77);
    }

    private static void writeOnCards() {
        for (int names = 0; names <= 4; names++) {
            Told x = new Told();
            x.set(ShoutGroups.NAMES, names);
            x.set(ShoutGroups.SIZE, 3);
            int[] readers = {15, 1, 5, 8, 2, 4};
            int named = 0;
            int groups = 0;
            for (int i = 0; i < readers.length; i++) {
                x.read(readers[i], 0);
                named |= 1 << readers[i];
                groups |= 1 << readers[i] / 3;
                card(x, 0, i < names ? NAMED : GROUPED, i < names ? named : groups);
            }
            check.due("groups 0, 1, 2, 5 with SIZE 3", x.ofNote(0, 3), 0x81ff);
        }
    }

    private static void changeAndOwn() {
        Told x = new Told();
        x.read(1, 0);
        x.read(2, 0);
        check.due("a sharer changes: one called, one asked", x.change(2, 0, 9999), 4);
        card(x, 0, OWNED, 1 << 2);
        check.due("the other has no copy", x.ofNote(0, 4), 1 << 2);
        check.due("copy", x.onShelf(2, 0, 1), 9999);
        check.due("changed", x.onShelf(2, 0, 2), 1);
        check.due("not quiet", x.ofReader(2, 3), 0);
        check.due("the owner changes", x.change(2, 0, 0), 0);
        check.due("quiet", x.ofReader(2, 3), 1);
        check.due("uses", x.ofReader(2, 2), 3);
        check.due("copy's new value", x.onShelf(2, 0, 1), 0);
        check.due("another changes", x.change(0, 0, 5), 4);
        card(x, 0, OWNED, 1);
        check.due("only one copy", x.ofNote(0, 4), 1);
        check.due("the old owner gave the value", x.ofNote(0, 0), 0);
        check.due("alone on the card, no owner", x.read(7, 1) + x.change(7, 1, 3), 2);
        x.change(7, 2, 1);
        check.due("used last", x.onShelf(7, 1, 0), 2);
        check.due("the owner uses the older copy", x.change(7, 1, 4), 0);
        check.due("used last now", x.onShelf(7, 1, 0), 1);
        check.due("its value", x.onShelf(7, 1, 1), 4);
        check.due("the other one's", x.onShelf(7, 0, 1), 1);
    }

    private static void changeWithGroups() {
        Told x = new Told();
        x.set(ShoutGroups.NAMES, 1);
        x.set(ShoutGroups.SIZE, 5);
        x.read(0, 4);
        x.read(15, 4);
        card(x, 4, GROUPED, 1 | 1 << 3);
        check.due("group 3 has one reader", x.ofNote(4, 3), 0x801f);
        check.due("called in vain", x.ofNote(4, 5), 4);
        check.due("one of the group", x.change(15, 4, 1), 5 + 1 + 2);
        check.due("shouts", x.count(2), 5);
        check.due("shouts for 4", x.ofNote(4, 8), 5);
        check.due("wasted", x.count(1), 4);
        check.due("wasted on 1", x.ofReader(1, 5), 1);
        check.due("not wasted on 0", x.ofReader(0, 5), 0);
        check.due("none to 15", x.ofReader(15, 5), 0);
        x.read(14, 4);
        x.read(13, 4);
        card(x, 4, GROUPED, 1 << 2);
        check.due("a stranger changes", x.change(3, 4, 2), 5 + 2 + 2);
        check.due("shouts by now", x.ofNote(4, 8), 10);
        check.due("copies called back by now", x.ofNote(4, 7), 4);
    }

    private static void roomForChanges() {
        Told x = new Told();
        x.set(ShoutGroups.ROOM, 2);
        x.change(0, 0, 10);
        x.read(0, 1);
        check.due("a changed one is put back", x.change(0, 2, 20), 3);
        check.due("its value", x.ofNote(0, 0), 10);
        card(x, 0, BLANK, 0);
        check.due("an unchanged one is put back", x.change(0, 3, 30), 2);
        card(x, 1, NAMED, 1);
        check.due("no room for a copy that is there", x.read(0, 2), 20);
        x.set(ShoutGroups.FORGET, 1);
        x.read(0, 1);
        card(x, 3, BLANK, 0);
        check.due("FORGET: one message more", x.costOfChange(0, 5, 0), 3);
        check.due("2 is the oldest", x.onShelf(0, 0, 0), 2);
        check.due("change(0, 5, 1)", x.change(0, 5, 1), 3);
        check.due("change(0, 6, 1)", x.change(0, 6, 1), 3);
        card(x, 1, BLANK, 0);
    }

    private static void putBackNamed() {
        Told x = new Told();
        x.read(1, 0);
        x.read(2, 0);
        check.due("without a word", x.putBack(1, 0), 0);
        check.due("no message", x.count(0), 4);
        card(x, 0, NAMED, 6);
        check.due("not there any more", x.putBack(1, 0), ShoutGroups.NOT_POSSIBLE);
        x.set(ShoutGroups.FORGET, 1);
        check.due("with a word", x.putBack(2, 0), 0);
        check.due("one message", x.count(0), 5);
        card(x, 0, NAMED, 2);
        x.read(1, 0);
        check.due("the last one named", x.putBack(1, 0), 0);
        card(x, 0, BLANK, 0);
        check.due("no use", x.ofReader(1, 2), 2);
        check.due("not called back", x.ofReader(1, 4), 0);
    }

    private static void putBackOwned() {
        Told x = new Told();
        x.read(4, 1);
        x.change(4, 2, 8);
        x.read(4, 3);
        check.due("a changed copy", x.putBack(4, 2), 1);
        check.due("one message", x.count(0), 7);
        check.due("its value", x.ofNote(2, 0), 8);
        card(x, 2, BLANK, 0);
        check.due("the first stays", x.onShelf(4, 0, 0), 1);
        check.due("the third moves up", x.onShelf(4, 1, 0), 3);
        check.due("two copies", x.ofReader(4, 0), 2);
        check.due("not called back", x.ofNote(2, 7), 0);
    }

    private static void putBackGrouped() {
        Told x = new Told();
        x.set(ShoutGroups.NAMES, 0);
        x.set(ShoutGroups.FORGET, 1);
        x.read(4, 1);
        check.due("putBack(4, 1)", x.putBack(4, 1), 0);
        check.due("one message", x.count(0), 3);
        card(x, 1, GROUPED, 2);
        check.due("all called in vain", x.ofNote(1, 5), 4);
    }

    private static void forgottenCopies() {
        Told x = new Told();
        x.read(0, 0);
        x.putBack(0, 0);
        check.due("a call in vain", x.change(5, 0, 1), 3);
        check.due("wasted", x.count(1), 1);
        check.due("wasted on 0", x.ofReader(0, 5), 1);
        check.due("no copy called back", x.ofNote(0, 7), 0);
        check.due("no shout", x.count(2), 0);
    }

    private static void recallNamed() {
        Told x = new Told();
        x.read(0, 6);
        x.read(9, 6);
        x.putBack(9, 6);
        check.due("recall(6)", x.recall(6), 1);
        check.due("two calls, one answer", x.count(0), 4 + 3);
        check.due("wasted on 9", x.ofReader(9, 5), 1);
        card(x, 6, BLANK, 0);
        check.due("recall(6) again", x.recall(6), ShoutGroups.NOT_POSSIBLE);
        x.change(3, 6, 1234);
        check.due("recall from the owner", x.recall(6), 1);
        check.due("its value", x.ofNote(6, 0), 1234);
        check.due("called back from 3", x.ofReader(3, 4), 1);
        check.due("called back in all", x.ofNote(6, 7), 2);
        check.due("shelf of 3", x.ofReader(3, 0), 0);
        card(x, 6, BLANK, 0);
        x.read(1, 6);
        x.putBack(1, 6);
        check.due("nobody has it", x.recall(6), 0);
    }

    private static void recallGrouped() {
        Told x = new Told();
        x.set(ShoutGroups.NAMES, 0);
        x.set(ShoutGroups.SIZE, 8);
        x.read(15, 23);
        x.read(8, 23);
        check.due("recall(23)", x.recall(23), 2);
        check.due("eight calls, two answers", x.count(0), 4 + 10);
        check.due("eight shouts", x.count(2), 8);
        check.due("for 23", x.ofNote(23, 8), 8);
        check.due("six wasted", x.count(1), 6);
        card(x, 23, BLANK, 0);
    }

    private static void errors() {
        Told x = new Told();
        x.read(15, 23);
        String before = Look.everything(x);
        for (int bad : new int[] {-1, 16, Integer.MIN_VALUE, Integer.MAX_VALUE}) {
            check.due("read(" + bad + ", 0)", x.read(bad, 0), ShoutGroups.NO_SUCH);
            check.due("change(" + bad + ", 0, -1)", x.change(bad, 0, -1), ShoutGroups.NO_SUCH);
            check.due("putBack(" + bad + ", 0)", x.putBack(bad, 0), ShoutGroups.NO_SUCH);
        }
        for (int bad : new int[] {-1, 24, Integer.MIN_VALUE, Integer.MAX_VALUE}) {
            check.due("read(0, " + bad + ")", x.read(0, bad), ShoutGroups.NO_SUCH);
            check.due("change(0, " + bad + ", 10000)", x.change(0, bad, 10000), ShoutGroups.NO_SUCH);
            check.due("putBack(0, " + bad + ")", x.putBack(0, bad), ShoutGroups.NO_SUCH);
            check.due("recall(" + bad + ")", x.recall(bad), ShoutGroups.NO_SUCH);
        }
        for (int bad : new int[] {-1, 10000, Integer.MIN_VALUE, Integer.MAX_VALUE}) {
            check.due("change(0, 0, " + bad + ")", x.change(0, 0, bad), ShoutGroups.BAD_VALUE);
        }
        check.due("putBack(0, 23)", x.putBack(0, 23), ShoutGroups.NOT_POSSIBLE);
        check.due("putBack(15, 22)", x.putBack(15, 22), ShoutGroups.NOT_POSSIBLE);
        check.due("recall(22)", x.recall(22), ShoutGroups.NOT_POSSIBLE);
        check.due("calls that fail", Look.everything(x), before);
    }
}

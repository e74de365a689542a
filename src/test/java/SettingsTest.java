/** Promises 1 and 2: a new object, set. */
public final class SettingsTest {
    private static final Check check = new Check();

    public static void main(String[] args) {
        newObject();
        ranges();
        cardsInUse();
        smallerRoom();
        isAChange();
        check.end();
    }

    private static void newObject() {
        Told x = new Told();
        int[] counts = {0, 0, 0, 0, 0, 0, 0, 2, 4, 3, 0, 0, 0};
        for (int what = 0; what < counts.length; what++) {
            check.due("new: count(" + what + ")", x.count(what), counts[what]);
        }
        for (int note = 0; note < 24; note++) {
            for (int what = 0; what <= 8; what++) {
                check.due("new: ofNote(" + note + ", " + what + ")", x.ofNote(note, what), 0);
            }
        }
        for (int reader = 0; reader < 16; reader++) {
            for (int what = 0; what <= 6; what++) {
                check.due("new: ofReader(" + reader + ", " + what + ")", x.ofReader(reader, what),
                        what == 1 ? reader / 4 : 0);
            }
        }
        check.due("new: account()", x.account(), 0);
        check.due("new: wipe()", x.wipe(), 0);
        Told y = new Told();
        y.read(0, 0);
        check.due("two objects share nothing", x.count(0), 0);
    }

    private static void ranges() {
        int[] lowest = {0, 1, 1, 0};
        int[] highest = {4, 8, 8, 1};
        int[] first = {2, 4, 3, 0};
        for (int setting = 0; setting < 4; setting++) {
            Told x = new Told();
            String before = Look.everything(x);
            for (int bad : new int[] {lowest[setting] - 1, highest[setting] + 1, Integer.MIN_VALUE, Integer.MAX_VALUE}) {
                check.due("set(" + setting + ", " + bad + ")", x.set(setting, bad), ShoutGroups.BAD_VALUE);
            }
            check.due("a set() that fails", Look.everything(x), before);
            int previous = first[setting];
            for (int value = lowest[setting]; value <= highest[setting]; value++) {
                check.due("set(" + setting + ", " + value + ")", x.set(setting, value), previous);
                check.due("count of setting " + setting, x.count(7 + setting), value);
                previous = value;
            }
        }
        Told x = new Told();
        for (int setting : new int[] {-1, 4, Integer.MIN_VALUE, Integer.MAX_VALUE}) {
            check.due("set(" + setting + ", 1)", x.set(setting, 1), ShoutGroups.BAD_VALUE);
        }
        check.due("history after errors", x.count(12), 0);
    }

    private static void cardsInUse() {
        Told x = new Told();
        x.read(0, 23);
        String before = Look.everything(x);
        check.due("NAMES with a card", x.set(ShoutGroups.NAMES, 3), ShoutGroups.NOT_POSSIBLE);
        check.due("the same NAMES with a card", x.set(ShoutGroups.NAMES, 2), ShoutGroups.NOT_POSSIBLE);
        check.due("SIZE with a card", x.set(ShoutGroups.SIZE, 3), ShoutGroups.NOT_POSSIBLE);
        check.due("a bad NAMES with a card", x.set(ShoutGroups.NAMES, 5), ShoutGroups.BAD_VALUE);
        check.due("a bad SIZE with a card", x.set(ShoutGroups.SIZE, 0), ShoutGroups.BAD_VALUE);
        check.due("set() that is not possible", Look.everything(x), before);
        check.due("ROOM with a card", x.set(ShoutGroups.ROOM, 5), 3);
        check.due("FORGET with a card", x.set(ShoutGroups.FORGET, 1), 0);
        x.putBack(0, 23);
        check.due("NAMES, BLANK again", x.set(ShoutGroups.NAMES, 3), 2);
        x.change(1, 1, 1);
        check.due("SIZE with an owner", x.set(ShoutGroups.SIZE, 3), ShoutGroups.NOT_POSSIBLE);
    }

    private static void smallerRoom() {
        Told x = new Told();
        x.read(0, 0);
        x.change(0, 1, 11);
        x.read(0, 2);
        x.set(ShoutGroups.ROOM, 1);
        check.due("copies more than ROOM", x.ofReader(0, 0), 3);
        check.due("a copy that is there needs no room", x.read(0, 0), 0);
        check.due("copies more than ROOM after a use", x.ofReader(0, 0), 3);
        check.due("cost with two to put back too many", x.costOfReading(0, 5), 3);
        x.read(0, 5);
        check.due("room is made as often as needed", x.ofReader(0, 0), 1);
        check.due("the changed one gave its value", x.ofNote(1, 0), 11);
        check.due("its card is BLANK", x.ofNote(1, 1), ShoutGroups.BLANK);
        check.due("messages in all", x.count(0), 2 + 2 + 2 + 3);
        x.set(ShoutGroups.ROOM, 8);
        for (int note = 10; note < 18; note++) {
            x.read(0, note);
        }
        check.due("eight copies", x.ofReader(0, 0), 8);
        check.due("the oldest of eight", x.onShelf(0, 0, 0), 10);
        check.due("the newest of eight", x.onShelf(0, 7, 0), 17);
    }

    private static void isAChange() {
        Told x = new Told();
        x.set(ShoutGroups.ROOM, 3);
        check.due("set() to the same is a change", x.count(12), 1);
        x.set(ShoutGroups.ROOM, 7);
        check.due("undo()", x.undo(), 1);
        check.due("ROOM after undo()", x.count(9), 3);
    }
}

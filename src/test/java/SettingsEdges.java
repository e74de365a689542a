/** The terms on settings, and promises 1 and 2: a new object, set. */
final class SettingsEdges {
    private static final int NAMES = ShoutGroups.NAMES, SIZE = ShoutGroups.SIZE;
    private static final int ROOM = ShoutGroups.ROOM, FORGET = ShoutGroups.FORGET;
    private static final int BAD_VALUE = ShoutGroups.BAD_VALUE, NOT_POSSIBLE = ShoutGroups.NOT_POSSIBLE;
    private static final int[] LOWEST = {0, 1, 1, 0}, HIGHEST = {4, 8, 8, 1}, FIRST = {2, 4, 3, 0};
    private static final Check check = EdgesTest.CHECK;

    static void all() {
        constants();
        namesOnACard();
        readersOfAGroup();
        copiesOnAShelf();
        forget();
        groupOfAReader();
        onlyIfNoCardNamesAnybody();
        emptyShelves();
        changesASetting();
        keepTheirCopies();
        isAChange();
        returnsThePrevious();
        noSuchSetting();
        outOfItsRange();
        someCardIsNotBlank();
    }

    private static void constants() {
        EdgesTest.sentence(0, "The constants: `NO_SUCH = -1, BAD_VALUE = -2, BAD_TEXT = -3, TOO_MANY = -4, "
                + "NOT_POSSIBLE = -5, NONE = -6`: Error codes, and NONE: there is none.");
        check.due("NO_SUCH", ShoutGroups.NO_SUCH, -1);
        check.due("BAD_VALUE", ShoutGroups.BAD_VALUE, -2);
        check.due("BAD_TEXT", ShoutGroups.BAD_TEXT, -3);
        check.due("TOO_MANY", ShoutGroups.TOO_MANY, -4);
        check.due("NOT_POSSIBLE", ShoutGroups.NOT_POSSIBLE, -5);
        check.due("NONE", ShoutGroups.NONE, -6);
        EdgesTest.sentence(0, "`NAMES = 0, SIZE = 1, ROOM = 2, FORGET = 3`: Settings.");
        check.due("NAMES", ShoutGroups.NAMES, 0);
        check.due("SIZE", ShoutGroups.SIZE, 1);
        check.due("ROOM", ShoutGroups.ROOM, 2);
        check.due("FORGET", ShoutGroups.FORGET, 3);
        EdgesTest.sentence(0, "`BLANK = 0, NAMED = 1, GROUPED = 2, OWNED = 3`: What a card is.");
        check.due("BLANK", ShoutGroups.BLANK, 0);
        check.due("NAMED", ShoutGroups.NAMED, 1);
        check.due("GROUPED", ShoutGroups.GROUPED, 2);
        check.due("OWNED", ShoutGroups.OWNED, 3);
    }

    /** Both ends of a setting's range, and its first value. */
    private static void range(int setting, int lowest, int highest, int first) {
        Told x = new Told();
        check.due("at first", x.count(7 + setting), first);
        check.due("the lowest", x.set(setting, lowest), first);
        check.due("the lowest stands", x.count(7 + setting), lowest);
        check.refused("below the lowest", x, y -> y.set(setting, lowest - 1), BAD_VALUE);
        check.due("the highest", x.set(setting, highest), lowest);
        check.due("the highest stands", x.count(7 + setting), highest);
        check.refused("above the highest", x, y -> y.set(setting, highest + 1), BAD_VALUE);
    }

    private static void namesOnACard() {
        EdgesTest.sentence(0, "NAMES (0 to 4; 2), how many sharers a card can name.");
        range(NAMES, 0, 4, 2);
        for (int names = 0; names <= 4; names++) {
            Told x = new Told();
            x.set(NAMES, names);
            for (int sharers = 1; sharers <= 6; sharers++) {
                x.read(2 * sharers, 9);
                check.due("NAMES " + names + ", " + sharers + " sharers", x.ofNote(9, 1),
                        sharers <= names ? ShoutGroups.NAMED : ShoutGroups.GROUPED);
            }
        }
    }

    private static void readersOfAGroup() {
        EdgesTest.sentence(0, "SIZE (1 to 8; 4), readers of a group.");
        range(SIZE, 1, 8, 4);
        for (int size = 1; size <= 8; size++) {
            Told x = new Told();
            x.set(NAMES, 0);
            x.set(SIZE, size);
            x.read(0, 9);
            check.due("the first group of SIZE " + size, x.ofNote(9, 3), (1 << size) - 1);
        }
    }

    private static void copiesOnAShelf() {
        EdgesTest.sentence(0, "ROOM (1 to 8; 3), copies on a shelf.");
        range(ROOM, 1, 8, 3);
        for (int room = 1; room <= 8; room++) {
            Told x = new Told();
            x.set(ROOM, room);
            for (int note = 0; note < room; note++) {
                x.read(15, note);
            }
            check.due("ROOM " + room + ", full", x.ofReader(15, 0), room);
            check.due("the first copy", x.ofNote(0, 4), 1 << 15);
            x.read(15, room);
            check.due("ROOM " + room + ", one reading more", x.ofReader(15, 0), room);
            check.due("the first copy is put back", x.ofNote(0, 4), 0);
            check.due("the last copy", x.onShelf(15, room - 1, 0), room);
        }
    }

    private static void forget() {
        EdgesTest.sentence(0, "FORGET (0 or 1; 0).");
        range(FORGET, 0, 1, 0);
    }

    private static void groupOfAReader() {
        EdgesTest.sentence(0, "Readers are in the group with the number reader / SIZE, rounded down.");
        for (int size = 1; size <= 8; size++) {
            Told x = new Told();
            x.set(SIZE, size);
            check.due("SIZE " + size + ", the first reader", x.ofReader(0, 1), 0);
            check.due("SIZE " + size + ", the last of the first group", x.ofReader(size - 1, 1), 0);
            check.due("SIZE " + size + ", the first of the next group", x.ofReader(size, 1), 1);
            check.due("SIZE " + size + ", the last reader", x.ofReader(15, 1), new int[] {15, 7, 5, 3, 3, 2, 2, 1}[size - 1]);
        }
    }

    private static final String[] KINDS = {"NAMED", "NAMED, no copies", "GROUPED", "GROUPED, no copies", "OWNED"};

    /** Makes a card that names somebody, in each way that there is. */
    private static Told withCard(int kind, int note) {
        Told x = new Told();
        if (kind == 4) {
            x.change(15, note, 0);
            return x;
        }
        int readers = kind < 2 ? 1 : 3;
        for (int reader = 0; reader < readers; reader++) {
            x.read(reader, note);
            if (kind % 2 == 1) {
                x.putBack(reader, note);
            }
        }
        return x;
    }

    private static void onlyIfNoCardNamesAnybody() {
        EdgesTest.sentence(0, "SIZE and NAMES can be changed only if no card names anybody.");
        for (int kind = 0; kind < KINDS.length; kind++) {
            for (int note : new int[] {0, 23}) {
                Told x = withCard(kind, note);
                String name = KINDS[kind] + ", note " + note;
                check.refused("NAMES, " + name, x, y -> y.set(NAMES, 4), NOT_POSSIBLE);
                check.refused("SIZE, " + name, x, y -> y.set(SIZE, 1), NOT_POSSIBLE);
                check.due("ROOM, " + name, x.set(ROOM, 1), 3);
                check.due("FORGET, " + name, x.set(FORGET, 1), 0);
                x.recall(note);
                check.due("NAMES after the recall, " + name, x.set(NAMES, 4), 2);
                check.due("SIZE after the recall, " + name, x.set(SIZE, 1), 4);
            }
        }
        Told x = new Told();
        check.due("NAMES of a new object", x.set(NAMES, 0), 2);
        check.due("SIZE of a new object", x.set(SIZE, 8), 4);
        x.change(3, 3, 3);
        check.due("an owner puts back", x.putBack(3, 3), 1);
        check.due("NAMES after an owner put back", x.set(NAMES, 1), 0);
        x.read(0, 0);
        x.read(0, 1);
        x.recall(0);
        check.due("one of two cards is BLANK again", x.set(SIZE, 1), NOT_POSSIBLE);
        x.recall(1);
        check.due("both are", x.set(SIZE, 1), 8);
    }

    private static void emptyShelves() {
        EdgesTest.sentence(1, "Creates a library whose shelves are empty.");
        Told used = new Told();
        used.read(0, 0);
        used.save(0);
        used.put('c');
        Told x = new Told();
        for (int reader = 0; reader < 16; reader++) {
            check.due("copies of " + reader, x.ofReader(reader, 0), 0);
            check.due("the first place of " + reader, x.onShelf(reader, 0, 0), ShoutGroups.NO_SUCH);
        }
        for (int note = 0; note < 24; note++) {
            check.due("copies of note " + note, x.ofNote(note, 4), 0);
        }
        for (int what = 0; what <= 12; what++) {
            boolean isSetting = what >= 7 && what <= 10;
            check.due("count(" + what + ")", x.count(what), isSetting ? FIRST[what - 7] : 0);
        }
        check.due("no change to undo", x.undo(), NOT_POSSIBLE);
        check.due("no slot", x.restore(0), NOT_POSSIBLE);
        check.due("nor the other", x.restore(1), NOT_POSSIBLE);
        check.due("an empty text", x.fault(), 0);
        check.due("an empty account", x.account(), 0);
    }

    private static void changesASetting() {
        EdgesTest.sentence(2, "Changes a setting.");
        for (int setting = 0; setting < 4; setting++) {
            Told x = new Told();
            x.set(setting, HIGHEST[setting]);
            for (int other = 0; other < 4; other++) {
                check.due("setting " + other + " after one of " + setting, x.count(7 + other),
                        other == setting ? HIGHEST[other] : FIRST[other]);
            }
        }
    }

    private static void keepTheirCopies() {
        EdgesTest.sentence(2, "(Shelves with more copies than ROOM keep them until room is made.)");
        Told x = new Told();
        x.change(4, 0, 70);
        x.read(4, 1);
        x.read(4, 2);
        x.read(7, 3);
        x.set(ROOM, 1);
        check.due("three copies", Look.shelf(x, 4), "0 1 2");
        check.due("no messages", x.count(0), 8);
        x.read(4, 1);
        check.due("a copy that is there is read", Look.shelf(x, 4), "0 2 1");
        x.change(4, 0, 71);
        check.due("the owner changes", Look.shelf(x, 4), "2 1 0");
        check.due("a sharer changes", x.change(4, 2, 1), 2);
        check.due("nothing is put back", Look.shelf(x, 4), "1 0 2");
        check.due("the only copy of a shelf with ROOM 1", Look.shelf(x, 7), "3");
        x.read(4, 5);
        check.due("room is made", Look.shelf(x, 4), "5");
        check.due("the changed one gave its value", x.ofNote(0, 0), 71);
    }

    private static void isAChange() {
        EdgesTest.sentence(2, "This is a change.");
        for (int setting = 0; setting < 4; setting++) {
            Told x = new Told();
            x.set(setting, FIRST[setting]);
            check.due("to the same value", x.count(12), 1);
            x.set(setting, LOWEST[setting]);
            x.set(setting, HIGHEST[setting]);
            check.due("three changes", x.count(12), 3);
            check.due("undo()", x.undo(), 2);
            check.due("as before the third", x.count(7 + setting), LOWEST[setting]);
            check.due("undo() again", x.undo(), 1);
            check.due("as before the second", x.count(7 + setting), FIRST[setting]);
        }
    }

    private static void returnsThePrevious() {
        EdgesTest.sentence(2, "Returns the previous value;");
        for (int setting = 0; setting < 4; setting++) {
            Told x = new Told();
            int previous = FIRST[setting];
            for (int value = HIGHEST[setting]; value >= LOWEST[setting]; value--) {
                check.due("set(" + setting + ", " + value + ")", x.set(setting, value), previous);
                check.due("the same once more", x.set(setting, value), value);
                previous = value;
            }
        }
    }

    private static void noSuchSetting() {
        EdgesTest.sentence(2, "BAD_VALUE if there is no such setting,");
        Told x = new Told();
        check.due("setting 0", x.set(0, 1), 2);
        check.due("setting 3", x.set(3, 1), 0);
        for (int setting : new int[] {-1, 4, 7, Integer.MIN_VALUE, Integer.MAX_VALUE}) {
            check.refused("setting " + setting, x, y -> y.set(setting, 1), BAD_VALUE);
        }
        x.read(0, 0);
        check.refused("setting -1 with a card", x, y -> y.set(-1, 1), BAD_VALUE);
        check.refused("setting 4 with a card", x, y -> y.set(4, 1), BAD_VALUE);
    }

    private static void outOfItsRange() {
        EdgesTest.sentence(2, "or the value is out of its range;");
        for (int i = 0; i < 4; i++) {
            int setting = i;
            Told x = new Told();
            for (int value : new int[] {LOWEST[i] - 1, HIGHEST[i] + 1, Integer.MIN_VALUE, Integer.MAX_VALUE}) {
                check.refused("set(" + i + ", " + value + ")", x, y -> y.set(setting, value), BAD_VALUE);
            }
            check.due("the lowest", x.set(i, LOWEST[i]), FIRST[i]);
            check.due("the highest", x.set(i, HIGHEST[i]), LOWEST[i]);
        }
    }

    private static void someCardIsNotBlank() {
        EdgesTest.sentence(2, "NOT_POSSIBLE if it is NAMES or SIZE, and some card is not BLANK.");
        Told x = new Told();
        x.read(11, 12);
        for (int value = 0; value <= 4; value++) {
            int names = value;
            check.refused("NAMES " + value, x, y -> y.set(NAMES, names), NOT_POSSIBLE);
        }
        for (int value = 1; value <= 8; value++) {
            int size = value;
            check.refused("SIZE " + value, x, y -> y.set(SIZE, size), NOT_POSSIBLE);
        }
        check.refused("BAD_VALUE comes first: NAMES -1", x, y -> y.set(NAMES, -1), BAD_VALUE);
        check.refused("BAD_VALUE comes first: NAMES 5", x, y -> y.set(NAMES, 5), BAD_VALUE);
        check.refused("BAD_VALUE comes first: SIZE 0", x, y -> y.set(SIZE, 0), BAD_VALUE);
        check.refused("BAD_VALUE comes first: SIZE 9", x, y -> y.set(SIZE, 9), BAD_VALUE);
        check.due("ROOM", x.set(ROOM, 8), 3);
        check.due("FORGET", x.set(FORGET, 1), 0);
        x.undo();
        x.undo();
        x.undo();
        check.due("undone, no card names anybody", x.set(NAMES, 4), 2);
    }
}

/** The terms on notes, copies and cards. */
final class CardEdges {
    private static final int BLANK = ShoutGroups.BLANK, NAMED = ShoutGroups.NAMED;
    private static final int GROUPED = ShoutGroups.GROUPED, OWNED = ShoutGroups.OWNED;
    private static final int NO_SUCH = ShoutGroups.NO_SUCH, BAD_VALUE = ShoutGroups.BAD_VALUE;
    private static final Check check = EdgesTest.CHECK;

    static void all() {
        fromZero();
        bitMasks();
        notesAndReaders();
        eachNoteOnce();
        usedLast();
        valueAndChanged();
        eachNoteHasACard();
        kindsOfCards();
        writtenOnBlank();
        writtenOnNamed();
        namedAlready();
        writtenOnGrouped();
        called();
    }

    private static Told with(int names, int size) {
        Told x = new Told();
        x.set(ShoutGroups.NAMES, names);
        x.set(ShoutGroups.SIZE, size);
        return x;
    }

    private static void card(String name, Told x, int note, int kind, int names) {
        check.due(name + ": what the card is", x.ofNote(note, 1), kind);
        check.due(name + ": whom it names", x.ofNote(note, 2), names);
    }

    private static void fromZero() {
        EdgesTest.sentence(0, "Everything is numbered from 0.");
        Told x = new Told();
        check.due("the first note, by the first reader", x.read(0, 0), 0);
        check.due("the last note, by the last reader", x.read(15, 23), 0);
        check.due("its place on the shelf", x.onShelf(15, 0, 0), 23);
        check.due("the first group", x.ofReader(0, 1), 0);
        check.due("the last group", x.ofReader(15, 1), 3);
        check.due("the first slot", x.save(0), 4);
        check.due("the last slot", x.save(1), 4);
        check.due("no reader 16", x.read(16, 0), NO_SUCH);
        check.due("no note 24", x.read(0, 24), NO_SUCH);
        check.due("no place 1", x.onShelf(15, 1, 0), NO_SUCH);
        check.due("no slot 2", x.save(2), BAD_VALUE);
        x.put('c' << 8 | 'c');
        check.due("the second character", x.fault(), 1);
    }

    private static void bitMasks() {
        EdgesTest.sentence(0, "Sets of readers and of groups are bit masks.");
        Told x = with(2, 1);
        x.read(0, 0);
        card("the first reader", x, 0, NAMED, 1);
        x.read(15, 0);
        card("and the last one", x, 0, NAMED, 0x8001);
        x.read(1, 0);
        card("groups of one", x, 0, GROUPED, 0x8003);
        x = with(0, 8);
        x.read(15, 0);
        card("the last of two groups", x, 0, GROUPED, 2);
        check.due("its readers", x.ofNote(0, 3), 0xff00);
        check.due("who has a copy", x.ofNote(0, 4), 0x8000);
    }

    private static void notesAndReaders() {
        EdgesTest.sentence(0, "There are 24 notes, 0 to 23, each with a value (0 to 9999; 0 at first),");
        for (int note = 0; note < 24; note++) {
            Told x = new Told();
            check.due("note " + note + " at first", x.ofNote(note, 0), 0);
            x.change(3, note, 9999);
            x.putBack(3, note);
            check.due("the highest value of " + note, x.ofNote(note, 0), 9999);
            x.change(3, note, 0);
            x.putBack(3, note);
            check.due("the lowest value of " + note, x.ofNote(note, 0), 0);
        }
        Told x = new Told();
        check.refused("no note -1", x, y -> y.read(0, -1), NO_SUCH);
        check.refused("no note 24", x, y -> y.read(0, 24), NO_SUCH);
        check.refused("no value -1", x, y -> y.change(0, 0, -1), BAD_VALUE);
        check.refused("no value 10000", x, y -> y.change(0, 0, 10000), BAD_VALUE);
        EdgesTest.sentence(0, "and 16 readers, 0 to 15, each with a shelf (empty at first).");
        for (int reader = 0; reader < 16; reader++) {
            check.due("shelf of " + reader + " at first", x.ofReader(reader, 0), 0);
            x.read(reader, reader + 8);
            check.due("copies of " + reader, x.ofReader(reader, 0), 1);
        }
        for (int reader = 0; reader < 16; reader++) {
            check.due("note on the shelf of " + reader, x.onShelf(reader, 0, 0), reader + 8);
        }
        check.refused("no reader -1", x, y -> y.read(-1, 0), NO_SUCH);
        check.refused("no reader 16", x, y -> y.read(16, 0), NO_SUCH);
    }

    private static void eachNoteOnce() {
        EdgesTest.sentence(0, "On a shelf lie copies of notes, of each note one at most,");
        Told x = new Told();
        x.read(5, 7);
        x.read(5, 7);
        check.due("read twice", Look.shelf(x, 5), "7");
        x.change(5, 7, 1);
        check.due("and changed", Look.shelf(x, 5), "7");
        x.change(5, 7, 2);
        x.read(5, 7);
        check.due("changed again and read", Look.shelf(x, 5), "7");
        x.putBack(5, 7);
        check.due("put back", Look.shelf(x, 5), "");
        x.read(5, 7);
        check.due("read anew", Look.shelf(x, 5), "7");
        x.read(6, 7);
        check.due("on two shelves", x.ofNote(7, 4), 3 << 5);
        check.due("copies in all", x.count(3), 2);
    }

    private static void usedLast() {
        EdgesTest.sentence(0, "in the order in which they were used last (the one that was used longest ago first);");
        Told x = new Told();
        x.set(ShoutGroups.ROOM, 8);
        for (int note = 1; note <= 4; note++) {
            x.read(0, note);
        }
        check.due("as they came", Look.shelf(x, 0), "1 2 3 4");
        x.read(0, 1);
        check.due("the first is read", Look.shelf(x, 0), "2 3 4 1");
        x.read(0, 4);
        check.due("one between is read", Look.shelf(x, 0), "2 3 1 4");
        x.read(0, 4);
        check.due("the last is read", Look.shelf(x, 0), "2 3 1 4");
        x.change(0, 2, 5);
        check.due("a sharer changes the first", Look.shelf(x, 0), "3 1 4 2");
        x.change(0, 1, 5);
        check.due("a sharer changes one between", Look.shelf(x, 0), "3 4 2 1");
        x.change(0, 2, 6);
        check.due("an owner changes one between", Look.shelf(x, 0), "3 4 1 2");
        x.change(0, 2, 7);
        check.due("an owner changes the last", Look.shelf(x, 0), "3 4 1 2");
        x.read(0, 1);
        check.due("an owner reads", Look.shelf(x, 0), "3 4 2 1");
        x.putBack(0, 4);
        check.due("one between is put back", Look.shelf(x, 0), "3 2 1");
        x.recall(2);
        check.due("one between is called back", Look.shelf(x, 0), "3 1");
        x.change(0, 9, 1);
        check.due("a new copy by a change", Look.shelf(x, 0), "3 1 9");
        x.putBack(0, 3);
        check.due("the first is put back", Look.shelf(x, 0), "1 9");
        x.putBack(0, 9);
        check.due("the last is put back", Look.shelf(x, 0), "1");
    }

    private static void valueAndChanged() {
        EdgesTest.sentence(0, "a copy has a value, and is changed or not.");
        Told x = new Told();
        x.change(1, 0, 9999);
        x.change(1, 1, 0);
        x.change(2, 2, 50);
        x.putBack(2, 2);
        x.read(1, 2);
        int[][] due = {{9999, 1}, {0, 1}, {50, 0}};
        for (int place = 0; place < 3; place++) {
            check.due("value of copy " + place, x.onShelf(1, place, 1), due[place][0]);
            check.due("copy " + place + " changed", x.onShelf(1, place, 2), due[place][1]);
        }
        x.read(1, 0);
        check.due("its value goes with it", x.onShelf(1, 2, 1), 9999);
        check.due("and that it is changed", x.onShelf(1, 2, 2), 1);
        check.due("value of the last before", x.onShelf(1, 1, 1), 50);
        check.due("it is not changed", x.onShelf(1, 1, 2), 0);
    }

    private static void eachNoteHasACard() {
        EdgesTest.sentence(0, "Each note has a card.");
        Told x = new Told();
        x.set(ShoutGroups.ROOM, 8);
        for (int note = 0; note < 16; note++) {
            x.read(note, note);
        }
        for (int note = 16; note < 24; note++) {
            x.change(note - 16, note, 1);
        }
        for (int note = 0; note < 24; note++) {
            card("note " + note, x, note, note < 16 ? NAMED : OWNED, 1 << note % 16);
        }
        x.recall(23);
        card("one of them", x, 23, BLANK, 0);
        card("the one before stays", x, 22, OWNED, 1 << 6);
    }

    private static void kindsOfCards() {
        EdgesTest.sentence(0, "A card is BLANK (0, at first), or names sharers (NAMED, 1), or names groups (GROUPED, 2), "
                + "or names an owner (OWNED, 3).");
        Told x = new Told();
        for (int note = 0; note < 24; note++) {
            card("note " + note + " at first", x, note, 0, 0);
        }
        x.read(9, 4);
        card("a sharer", x, 4, 1, 1 << 9);
        x.read(1, 4);
        x.read(0, 4);
        card("groups", x, 4, 2, 5);
        x.change(8, 4, 1);
        card("an owner", x, 4, 3, 1 << 8);
        x.putBack(8, 4);
        card("again", x, 4, 0, 0);
    }

    private static void writtenOnBlank() {
        EdgesTest.sentence(0, "To write a reader on a card: a BLANK card becomes NAMED with this reader, or (with NAMES as 0) "
                + "GROUPED with the reader's group;");
        for (int reader : new int[] {0, 4, 5, 9, 10, 14, 15}) {
            Told x = with(1, 5);
            x.read(reader, 6);
            card("NAMES 1, reader " + reader, x, 6, NAMED, 1 << reader);
            x = with(0, 5);
            x.read(reader, 6);
            card("NAMES 0, reader " + reader, x, 6, GROUPED, 1 << reader / 5);
        }
    }

    private static void writtenOnNamed() {
        EdgesTest.sentence(0, "on a NAMED card, which does not name the reader, the reader is named as well, if it names "
                + "fewer than NAMES then; otherwise it becomes GROUPED, with the groups of all whom it named and of this "
                + "reader;");
        int[] readers = {12, 3, 15, 0, 7};
        for (int names = 1; names <= 4; names++) {
            Told x = with(names, 4);
            int named = 0;
            int groups = 0;
            for (int i = 0; i <= names; i++) {
                x.read(readers[i], 2);
                named |= 1 << readers[i];
                groups |= 1 << readers[i] / 4;
                card("NAMES " + names + ", reader " + i, x, 2, i < names ? NAMED : GROUPED, i < names ? named : groups);
            }
        }
        Told x = with(2, 4);
        x.read(4, 2);
        x.read(5, 2);
        x.read(7, 2);
        card("all of one group", x, 2, GROUPED, 2);
        x = with(1, 4);
        x.read(15, 2);
        x.putBack(15, 2);
        x.read(0, 2);
        card("one of them has no copy any more", x, 2, GROUPED, 9);
        x = with(1, 4);
        x.set(ShoutGroups.FORGET, 1);
        x.read(15, 2);
        x.putBack(15, 2);
        x.read(0, 2);
        card("one was struck", x, 2, NAMED, 1);
    }

    private static void namedAlready() {
        EdgesTest.sentence(0, "on a NAMED card, which does not name the reader,");
        for (int names = 1; names <= 4; names++) {
            Told x = with(names, 4);
            for (int reader = 0; reader < names; reader++) {
                x.read(4 * reader, 8);
            }
            x.putBack(0, 8);
            int named = x.ofNote(8, 2);
            check.due("a full card with a reader who has no copy", x.read(0, 8), 0);
            card("NAMES " + names + ", full, names the reader already", x, 8, NAMED, named);
        }
        Told x = with(3, 4);
        x.read(6, 8);
        x.putBack(6, 8);
        x.read(6, 8);
        card("named once", x, 8, NAMED, 1 << 6);
        x.read(7, 8);
        x.read(8, 8);
        card("so there is room for two more", x, 8, NAMED, 7 << 6);
    }

    private static void writtenOnGrouped() {
        EdgesTest.sentence(0, "on a GROUPED card the group of the reader is named (perhaps it is already).");
        Told x = with(1, 4);
        x.read(0, 1);
        x.read(4, 1);
        card("two groups", x, 1, GROUPED, 3);
        x.read(5, 1);
        card("a group that is named already", x, 1, GROUPED, 3);
        x.read(15, 1);
        card("a group that is not", x, 1, GROUPED, 11);
        x.putBack(15, 1);
        x.read(15, 1);
        card("the same reader again", x, 1, GROUPED, 11);
        x.read(8, 1);
        card("all groups", x, 1, GROUPED, 15);
    }

    private static void called() {
        EdgesTest.sentence(0, "The called of a card are the readers whom it names, the readers of the groups that it names "
                + "(all of them, as far as there are such readers), or its owner.");
        Told x = new Told();
        check.due("of a BLANK card", x.ofNote(0, 3), 0);
        x.read(15, 0);
        x.read(0, 0);
        check.due("two readers", x.ofNote(0, 3), 0x8001);
        x.change(9, 0, 1);
        check.due("an owner", x.ofNote(0, 3), 1 << 9);
        int[] lastGroups = {0x8000, 0xc000, 0x8000, 0xf000, 0x8000, 0xf000, 0xc000, 0xff00};
        for (int size = 1; size <= 8; size++) {
            x = with(0, size);
            x.read(15, 3);
            check.due("the last group of SIZE " + size, x.ofNote(3, 3), lastGroups[size - 1]);
            check.due("called without a copy", x.ofNote(3, 5), Integer.bitCount(lastGroups[size - 1]) - 1);
            x.read(0, 3);
            check.due("and the first", x.ofNote(3, 3), lastGroups[size - 1] | (1 << size) - 1);
            int inVain = Integer.bitCount(lastGroups[size - 1]) + size - 2;
            check.due("messages of a recall", callBack(x, 3), inVain + 2 * 2);
            check.due("shouts", x.count(2), inVain + 2);
        }
    }

    private static int callBack(Told x, int note) {
        int before = x.count(0);
        x.recall(note);
        return x.count(0) - before;
    }
}

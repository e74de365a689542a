/** The terms on reading and changing, and promises 3 to 6: read, change, putBack, recall. */
final class UseEdges {
    private static final int BLANK = ShoutGroups.BLANK, NAMED = ShoutGroups.NAMED;
    private static final int GROUPED = ShoutGroups.GROUPED, OWNED = ShoutGroups.OWNED;
    private static final int NO_SUCH = ShoutGroups.NO_SUCH, BAD_VALUE = ShoutGroups.BAD_VALUE;
    private static final int NOT_POSSIBLE = ShoutGroups.NOT_POSSIBLE;
    private static final int[] NO_READERS = {-1, 16, 17, Integer.MIN_VALUE, Integer.MAX_VALUE};
    private static final int[] NO_NOTES = {-1, 24, 25, Integer.MIN_VALUE, Integer.MAX_VALUE};
    private static final Check check = EdgesTest.CHECK;

    static void all() {
        readOnTheShelf();
        readFromAnOwner();
        readAnew();
        ownerChanges();
        othersChange();
        makeRoom();
        putBackChanged();
        putBackAndForget();
        putBackWithoutAWord();
        read();
        change();
        putBack();
        recall();
    }

    private static Told with(int names, int size, int room, int forget) {
        Told x = new Told();
        x.set(ShoutGroups.NAMES, names);
        x.set(ShoutGroups.SIZE, size);
        x.set(ShoutGroups.ROOM, room);
        x.set(ShoutGroups.FORGET, forget);
        return x;
    }

    private static void card(String name, Told x, int note, int kind, int names) {
        check.due(name + ": what the card is", x.ofNote(note, 1), kind);
        check.due(name + ": whom it names", x.ofNote(note, 2), names);
    }

    private static void readOnTheShelf() {
        EdgesTest.sentence(0, "If a reader reads a note: if there is a copy on the shelf, it is used.");
        Told x = with(2, 4, 1, 0);
        x.read(2, 5);
        check.due("read on a full shelf", x.read(2, 5), 0);
        check.due("no message", x.count(0), 2);
        card("it", x, 5, NAMED, 4);
        x.change(2, 5, 80);
        check.due("the owner reads", x.read(2, 5), 80);
        check.due("no message to the owner", x.count(0), 4);
        card("still owned", x, 5, OWNED, 4);
        check.due("the library's value", x.ofNote(5, 0), 0);
        check.due("still changed", x.onShelf(2, 0, 2), 1);
        x = with(0, 4, 8, 1);
        x.read(2, 5);
        x.read(2, 6);
        x.read(2, 5);
        check.due("GROUPED", x.count(0), 4);
        check.due("used last", Look.shelf(x, 2), "6 5");
    }

    private static void readFromAnOwner() {
        EdgesTest.sentence(0, "Otherwise: if the card is OWNED, the copy is called back from its owner, and the card is BLANK "
                + "then;");
        Told x = new Told();
        x.change(0, 5, 80);
        check.due("read from an owner", x.read(15, 5), 80);
        check.due("call, answer, ask, copy", x.count(0), 2 + 4);
        card("only the reader is named", x, 5, NAMED, 1 << 15);
        check.due("the owner's shelf", x.ofReader(0, 0), 0);
        check.due("called back", x.ofReader(0, 4), 1);
        x = with(0, 4, 3, 0);
        x.change(0, 5, 80);
        x.read(15, 5);
        card("only the reader's group is named", x, 5, GROUPED, 8);
        x = new Told();
        x.read(0, 5);
        x.read(15, 5);
        check.due("nobody is called from a NAMED card", x.count(0), 4);
        x.read(1, 5);
        x.read(2, 5);
        check.due("nor from a GROUPED card", x.count(0), 8);
        check.due("all have a copy", x.ofNote(5, 4), 0x8007);
    }

    private static void readAnew() {
        EdgesTest.sentence(0, "room is made on the shelf; a copy of the note, with its value, not changed, comes on the shelf "
                + "(one message to ask for it, one with it), and the reader is written on the card.");
        Told x = with(2, 4, 2, 0);
        x.change(9, 0, 4711);
        x.putBack(9, 0);
        x.read(1, 20);
        x.read(1, 21);
        int before = x.count(0);
        check.due("its value", x.read(1, 0), 4711);
        check.due("two messages", x.count(0) - before, 2);
        check.due("the shelf", Look.shelf(x, 1), "21 0");
        check.due("the copy's value", x.onShelf(1, 1, 1), 4711);
        check.due("not changed", x.onShelf(1, 1, 2), 0);
        card("the reader is written", x, 0, NAMED, 2);
        x.putBack(1, 0);
        x.read(1, 0);
        check.due("a named reader without a copy asks again", x.count(0) - before, 4);
    }

    private static void ownerChanges() {
        EdgesTest.sentence(0, "If a reader changes a note: if the card names the reader as the owner, the copy (it is on the "
                + "shelf) is used, and gets the new value, and is changed.");
        Told x = with(2, 4, 1, 1);
        x.change(6, 0, 1);
        check.due("the owner changes", x.change(6, 0, 2), 0);
        check.due("the same value again", x.change(6, 0, 2), 0);
        check.due("no message", x.count(0), 2);
        check.due("the new value", x.onShelf(6, 0, 1), 2);
        check.due("changed", x.onShelf(6, 0, 2), 1);
        check.due("the library's value", x.ofNote(0, 0), 0);
        card("owned", x, 0, OWNED, 1 << 6);
        x.read(6, 1);
        check.due("the owner that was", x.change(6, 0, 3), 2 + 1);
        x = new Told();
        x.read(6, 0);
        check.due("the only one named is no owner", x.change(6, 0, 1), 2);
        x = with(0, 1, 3, 0);
        x.read(6, 0);
        check.due("the only one of a named group is no owner", x.change(6, 0, 1), 2);
    }

    private static void othersChange() {
        EdgesTest.sentence(0, "Otherwise: the note is called back but from the reader; if there is no copy of it on the "
                + "reader's shelf, room is made, and a copy comes there (one message to ask for it, one with it), otherwise "
                + "it is used (one message to ask, one with the answer); the copy gets the new value, and is changed; the "
                + "card is OWNED then, with this reader.");
        Told x = with(2, 4, 1, 0);
        check.due("a BLANK card", x.change(3, 0, 1), 2);
        card("BLANK before", x, 0, OWNED, 8);
        check.due("another's card", x.change(4, 0, 2), 2 + 2);
        card("OWNED before", x, 0, OWNED, 16);
        check.due("the copy's value", x.onShelf(4, 0, 1), 2);
        check.due("it is changed", x.onShelf(4, 0, 2), 1);
        x.read(5, 1);
        x.read(6, 1);
        check.due("a sharer, on a full shelf", x.change(5, 1, 3), 2 + 2);
        check.due("no room was made", Look.shelf(x, 5), "1");
        card("NAMED before", x, 1, OWNED, 32);
        check.due("a full shelf with a changed copy", x.change(5, 2, 4), 1 + 2);
        check.due("room was made", Look.shelf(x, 5), "2");
        x.read(8, 3);
        x.read(9, 3);
        x.read(10, 3);
        check.due("a sharer of a group", x.change(9, 3, 5), 3 + 2 + 2);
        card("GROUPED before", x, 3, OWNED, 1 << 9);
        check.due("only one copy", x.ofNote(3, 4), 1 << 9);
        x.read(8, 3);
        x.read(9, 3);
        x.read(10, 3);
        check.due("one outside, on a full shelf", x.change(5, 3, 6), 4 + 3 + 1 + 2);
        card("GROUPED before that", x, 3, OWNED, 32);
    }

    private static void makeRoom() {
        EdgesTest.sentence(0, "To make room: if there are ROOM copies on the shelf, or more, the one that was used longest ago "
                + "is put back, as often as needed.");
        for (int room = 2; room <= 8; room++) {
            Told x = with(2, 4, room, 0);
            for (int note = 1; note < room; note++) {
                x.read(0, note);
            }
            x.read(0, 10);
            check.due("ROOM " + room + ", one less", x.ofReader(0, 0), room);
            check.due("nothing is put back", x.onShelf(0, 0, 0), 1);
            x.read(0, 1);
            x.read(0, 11);
            check.due("ROOM " + room + ", as many", x.ofReader(0, 0), room);
            check.due("the one used longest ago is put back", x.ofNote(room == 2 ? 10 : 2, 4), 0);
            check.due("the one read again is not", x.ofNote(1, 4), 1);
        }
        for (int room = 1; room <= 7; room++) {
            Told x = with(2, 4, 8, 1);
            for (int note = 0; note < 8; note++) {
                x.read(0, note);
            }
            x.set(ShoutGroups.ROOM, room);
            int before = x.count(0);
            x.change(0, 20, 1);
            check.due("ROOM " + room + ", eight on the shelf", x.ofReader(0, 0), room);
            check.due("messages", x.count(0) - before, 8 - room + 1 + 2);
            check.due("the new one", x.onShelf(0, room - 1, 0), 20);
            check.due("the oldest that is left", x.onShelf(0, 0, 0), room == 1 ? 20 : 8 - room + 1);
        }
    }

    private static void putBackChanged() {
        EdgesTest.sentence(0, "To put a copy back: a changed one gives its value to the note; if it is changed, or FORGET is "
                + "1, there is one message, and it is struck from its card: an OWNED card is BLANK then;");
        for (int forget = 0; forget <= 1; forget++) {
            Told x = with(2, 4, 1, forget);
            x.change(4, 7, 55);
            check.due("by itself", x.putBack(4, 7), 1);
            check.due("one message", x.count(0), 3);
            check.due("its value", x.ofNote(7, 0), 55);
            card("put back", x, 7, BLANK, 0);
            x.change(4, 7, 66);
            x.read(4, 8);
            check.due("to make room: one message", x.count(0), 3 + 2 + 1 + 2);
            check.due("to make room: its value", x.ofNote(7, 0), 66);
            card("put back to make room", x, 7, BLANK, 0);
            check.due("not called back", x.ofNote(7, 7), 0);
        }
    }

    private static void putBackAndForget() {
        EdgesTest.sentence(0, "a NAMED card does not name the reader any more (BLANK, if it named nobody else);");
        Told x = with(3, 4, 3, 1);
        x.read(0, 7);
        x.read(8, 7);
        x.read(15, 7);
        check.due("putBack(8, 7)", x.putBack(8, 7), 0);
        check.due("one message", x.count(0), 7);
        card("two are left", x, 7, NAMED, 0x8001);
        x.putBack(15, 7);
        card("one is left", x, 7, NAMED, 1);
        x.putBack(0, 7);
        card("nobody is left", x, 7, BLANK, 0);
        x.read(1, 7);
        x.putBack(1, 7);
        check.due("SIZE can be changed", x.set(ShoutGroups.SIZE, 8), 4);
        EdgesTest.sentence(0, "a GROUPED card stays as it is.");
        x = with(0, 4, 3, 1);
        x.read(8, 7);
        check.due("putBack(8, 7)", x.putBack(8, 7), 0);
        check.due("one message all the same", x.count(0), 3);
        card("nobody of the group has a copy", x, 7, GROUPED, 4);
    }

    private static void putBackWithoutAWord() {
        EdgesTest.sentence(0, "(With FORGET as 0, a copy that is not changed is put back without a word, and the card still "
                + "names the reader.)");
        Told x = with(2, 4, 1, 0);
        x.read(8, 7);
        check.due("putBack(8, 7)", x.putBack(8, 7), 0);
        check.due("no message", x.count(0), 2);
        card("put back", x, 7, NAMED, 1 << 8);
        x.read(8, 7);
        x.read(8, 6);
        check.due("no message to make room", x.count(0), 6);
        card("put back to make room", x, 7, NAMED, 1 << 8);
        x = with(0, 4, 1, 0);
        x.read(8, 7);
        x.putBack(8, 7);
        check.due("no message, GROUPED", x.count(0), 2);
        card("GROUPED", x, 7, GROUPED, 4);
        x = with(2, 4, 1, 1);
        x.read(8, 7);
        x.putBack(8, 7);
        check.due("FORGET as 1", x.count(0), 3);
        card("FORGET as 1", x, 7, BLANK, 0);
    }

    /** Something on shelves, cards, the pad, in a slot and in the history, which an error must not touch. */
    private static Told busy() {
        Told x = with(1, 5, 2, 1);
        x.change(0, 0, 9);
        x.read(1, 0);
        x.read(15, 0);
        x.save(1);
        x.change(15, 23, 8);
        x.read(2, 23);
        x.change(2, 5, 4);
        x.read(2, 6);
        Look.put(x, "w0:0=1;r15:23");
        return x;
    }

    private static void read() {
        EdgesTest.sentence(3, "A reader reads a note. This is a change.");
        Told x = new Told();
        x.read(0, 23);
        check.due("recorded", x.count(12), 1);
        x.read(0, 23);
        check.due("also if the copy is there", x.count(12), 2);
        check.due("undo()", x.undo(), 1);
        check.due("uses", x.ofReader(0, 2), 1);
        check.due("undo() again", x.undo(), 0);
        check.due("as at first", Look.whole(x), Look.whole(new Told()));
        EdgesTest.sentence(3, "Returns the value that is read;");
        x.change(3, 3, 9999);
        check.due("the owner's copy", x.read(3, 3), 9999);
        check.due("from the owner", x.read(4, 3), 9999);
        check.due("from the library", x.read(5, 3), 9999);
        check.due("the copy on the shelf", x.read(4, 3), 9999);
        check.due("a note without a value of its own", x.read(4, 4), 0);
        x.change(3, 3, 0);
        check.due("0 again", x.read(15, 3), 0);
        EdgesTest.sentence(3, "NO_SUCH if there is no such reader or note.");
        Told busy = busy();
        for (int bad : NO_READERS) {
            check.refused("read(" + bad + ", 0)", busy, y -> y.read(bad, 0), NO_SUCH);
        }
        for (int bad : NO_NOTES) {
            check.refused("read(0, " + bad + ")", busy, y -> y.read(0, bad), NO_SUCH);
        }
        check.refused("read(-1, 24)", busy, y -> y.read(-1, 24), NO_SUCH);
        check.due("read(0, 0)", busy.read(0, 0), 9);
        check.due("read(15, 23)", busy.read(15, 23), 8);
    }

    private static void change() {
        EdgesTest.sentence(4, "A reader changes a note. This is a change.");
        Told x = new Told();
        x.change(0, 23, 5);
        x.change(0, 23, 5);
        check.due("recorded, also if nothing is different on the shelf", x.count(12), 2);
        check.due("undo()", x.undo(), 1);
        check.due("uses", x.ofReader(0, 2), 1);
        check.due("undo() again", x.undo(), 0);
        check.due("as at first", Look.whole(x), Look.whole(new Told()));
        EdgesTest.sentence(4, "- `value`: 0 to 9999");
        check.due("the highest", x.change(2, 2, 9999), 2);
        check.due("it", x.onShelf(2, 0, 1), 9999);
        check.due("the lowest", x.change(2, 2, 0), 0);
        check.due("it", x.onShelf(2, 0, 1), 0);
        EdgesTest.sentence(4, "Returns how many messages it took;");
        check.due("none", x.change(2, 2, 1), 0);
        check.due("two", x.change(2, 3, 1), 2);
        check.due("four", x.change(3, 2, 1), 4);
        x = with(0, 8, 1, 1);
        for (int reader = 0; reader < 16; reader++) {
            x.read(reader, 0);
        }
        x.read(15, 1);
        check.due("all: eight and seven shouts, fifteen answers, one to make room, two", x.change(15, 0, 1),
                15 + 15 + 1 + 2);
        EdgesTest.sentence(4, "NO_SUCH if there is no such reader or note; BAD_VALUE if value is out of range.");
        Told busy = busy();
        for (int bad : NO_READERS) {
            check.refused("change(" + bad + ", 0, 0)", busy, y -> y.change(bad, 0, 0), NO_SUCH);
            check.refused("change(" + bad + ", 0, -1)", busy, y -> y.change(bad, 0, -1), NO_SUCH);
        }
        for (int bad : NO_NOTES) {
            check.refused("change(0, " + bad + ", 0)", busy, y -> y.change(0, bad, 0), NO_SUCH);
            check.refused("change(0, " + bad + ", 10000)", busy, y -> y.change(0, bad, 10000), NO_SUCH);
        }
        for (int bad : new int[] {-1, 10000, 10001, Integer.MIN_VALUE, Integer.MAX_VALUE}) {
            check.refused("change(0, 0, " + bad + ")", busy, y -> y.change(0, 0, bad), BAD_VALUE);
            check.refused("change(15, 23, " + bad + ")", busy, y -> y.change(15, 23, bad), BAD_VALUE);
        }
    }

    private static void putBack() {
        EdgesTest.sentence(5, "A reader puts a copy back. This is a change.");
        Told x = new Told();
        x.change(2, 2, 2);
        x.read(2, 3);
        String before = Look.state(x);
        x.putBack(2, 2);
        x.putBack(2, 3);
        check.due("recorded", x.count(12), 4);
        check.due("undo()", x.undo(), 3);
        check.due("undo() again", x.undo(), 2);
        check.due("both copies are there", Look.state(x), before);
        EdgesTest.sentence(5, "Returns 1 if it was changed, otherwise 0;");
        for (int forget = 0; forget <= 1; forget++) {
            x = with(2, 4, 3, forget);
            x.change(2, 2, 0);
            x.read(2, 3);
            check.due("changed", x.putBack(2, 2), 1);
            check.due("not changed", x.putBack(2, 3), 0);
        }
        EdgesTest.sentence(5, "NO_SUCH if there is no such reader or note; NOT_POSSIBLE if there is no copy of it on the "
                + "shelf.");
        Told busy = busy();
        for (int bad : NO_READERS) {
            check.refused("putBack(" + bad + ", 0)", busy, y -> y.putBack(bad, 0), NO_SUCH);
        }
        for (int bad : NO_NOTES) {
            check.refused("putBack(0, " + bad + ")", busy, y -> y.putBack(0, bad), NO_SUCH);
        }
        check.refused("an empty shelf", busy, y -> y.putBack(3, 0), NOT_POSSIBLE);
        check.refused("a copy that was called back", busy, y -> y.putBack(0, 0), NOT_POSSIBLE);
        check.refused("a copy that went to make room", busy, y -> y.putBack(2, 23), NOT_POSSIBLE);
        check.refused("a copy of another note", busy, y -> y.putBack(2, 0), NOT_POSSIBLE);
        check.due("another's copy is there", busy.putBack(15, 0), 0);
        check.refused("put back before", busy, y -> y.putBack(15, 0), NOT_POSSIBLE);
    }

    private static void recall() {
        EdgesTest.sentence(6, "The library calls a note back from all its called; its card is BLANK then. This is a change.");
        Told x = with(2, 8, 3, 0);
        x.read(0, 23);
        x.read(15, 23);
        String named = Look.state(x);
        x.recall(23);
        check.due("recorded", x.count(12), 6);
        card("NAMED before", x, 23, BLANK, 0);
        check.due("the first is called", x.ofReader(0, 4), 1);
        check.due("the last is called", x.ofReader(15, 4), 1);
        check.due("undo()", x.undo(), 5);
        check.due("as before", Look.state(x), named);
        x.read(1, 23);
        x.recall(23);
        card("GROUPED before", x, 23, BLANK, 0);
        check.due("all are called", x.count(2), 16);
        x.change(9, 23, 3);
        x.recall(23);
        card("OWNED before", x, 23, BLANK, 0);
        check.due("its value", x.ofNote(23, 0), 3);
        EdgesTest.sentence(6, "Returns how many copies are taken away;");
        for (int copies = 0; copies <= 16; copies++) {
            x = with(0, 8, 3, 0);
            for (int reader = 0; reader < 16; reader++) {
                x.read(reader, 0);
            }
            for (int reader = copies; reader < 16; reader++) {
                x.putBack(reader, 0);
            }
            check.due(copies + " copies", x.recall(0), copies);
            check.due("messages", x.count(0), 2 * 16 + 16 + copies);
        }
        EdgesTest.sentence(6, "NO_SUCH if there is no such note; NOT_POSSIBLE if its card is BLANK.");
        Told busy = busy();
        for (int bad : NO_NOTES) {
            check.refused("recall(" + bad + ")", busy, y -> y.recall(bad), NO_SUCH);
        }
        check.refused("a card that is BLANK as at first", busy, y -> y.recall(22), NOT_POSSIBLE);
        check.refused("a card that is BLANK again", busy, y -> y.recall(23), NOT_POSSIBLE);
        check.due("a card that is not", busy.recall(0), 2);
        check.refused("recalled before", busy, y -> y.recall(0), NOT_POSSIBLE);
    }
}

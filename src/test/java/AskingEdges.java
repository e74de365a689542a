/** Promises 7 to 10: ofNote, onShelf, ofReader, count. */
final class AskingEdges {
    private static final int BLANK = ShoutGroups.BLANK, NAMED = ShoutGroups.NAMED;
    private static final int GROUPED = ShoutGroups.GROUPED, OWNED = ShoutGroups.OWNED;
    private static final int NAMES = ShoutGroups.NAMES, SIZE = ShoutGroups.SIZE;
    private static final int ROOM = ShoutGroups.ROOM, FORGET = ShoutGroups.FORGET;
    private static final int NO_SUCH = ShoutGroups.NO_SUCH, BAD_VALUE = ShoutGroups.BAD_VALUE;
    private static final int[] NO_READERS = {-1, 16, 17, Integer.MIN_VALUE, Integer.MAX_VALUE};
    private static final int[] NO_NOTES = {-1, 24, 25, Integer.MIN_VALUE, Integer.MAX_VALUE};
    private static final Check check = EdgesTest.CHECK;

    static void all() {
        askingChangesNothing();
        valueInTheLibrary();
        whatTheCardIs();
        whomTheCardNames();
        itsCalled();
        whoHasACopy();
        calledWithoutACopy();
        valueToRead();
        copiesCalledBack();
        shoutsForANote();
        ofNoteRefused();
        placeOnTheShelf();
        fullShelvesSideBySide();
        aboutACopy();
        onShelfRefused();
        copiesOfAReader();
        groupOfAReader();
        readingsAndChanges();
        withoutAMessage();
        calledBackFromAReader();
        wastedOnAReader();
        notesThatCall();
        ofReaderRefused();
        messages();
        wastedAndShouts();
        copiesOnAllShelves();
        cards();
        settings();
        padAndHistory();
        countRefused();
    }

    private static Told with(int names, int size, int room) {
        Told x = new Told();
        x.set(NAMES, names);
        x.set(SIZE, size);
        x.set(ROOM, room);
        return x;
    }

    /** A full shelf, cards of each kind, a pad, a slot and a full history. */
    private static Told busy() {
        Told x = with(1, 5, 2);
        x.change(0, 0, 9);
        x.read(1, 0);
        x.read(15, 0);
        x.save(1);
        x.change(15, 23, 8);
        x.read(2, 23);
        x.change(2, 5, 4);
        x.read(2, 6);
        Look.put(x, "w0:0=1;r15:2");
        return x;
    }

    private static void askingChangesNothing() {
        EdgesTest.sentence(0, "Ahead of the calls `ofNote`, `onShelf`, `ofReader`, `count` the interface says: ---- what there "
                + "is.");
        Told x = busy();
        Told y = x.again();
        for (int what = -1; what <= 13; what++) {
            y.ofNote(0, what);
            y.ofNote(23, what);
            y.ofNote(24, what);
            y.ofReader(15, what);
            y.ofReader(16, what);
            y.onShelf(15, 1, what);
            y.onShelf(15, 2, what);
            y.count(what);
        }
        check.due("asked", Look.whole(y), Look.whole(x));
    }

    private static void valueInTheLibrary() {
        EdgesTest.sentence(7, "Returns something about a note. - `what`: 0 its value in the library,");
        for (int note : new int[] {0, 23}) {
            Told x = new Told();
            check.due("at first", x.ofNote(note, 0), 0);
            x.change(1, note, 9999);
            check.due("while the changed copy is on a shelf", x.ofNote(note, 0), 0);
            x.putBack(1, note);
            check.due("put back", x.ofNote(note, 0), 9999);
            x.change(1, note, 0);
            check.due("changed again", x.ofNote(note, 0), 9999);
            x.recall(note);
            check.due("recalled", x.ofNote(note, 0), 0);
            check.due("of another note", x.ofNote(23 - note, 0), 0);
        }
    }

    private static void whatTheCardIs() {
        EdgesTest.sentence(7, "1 what its card is,");
        Told x = new Told();
        check.due("at first", x.ofNote(23, 1), BLANK);
        x.read(0, 23);
        check.due("one sharer", x.ofNote(23, 1), NAMED);
        x.read(1, 23);
        check.due("NAMES of them", x.ofNote(23, 1), NAMED);
        x.read(2, 23);
        check.due("one more", x.ofNote(23, 1), GROUPED);
        x.change(2, 23, 0);
        check.due("changed", x.ofNote(23, 1), OWNED);
        check.due("of another note", x.ofNote(22, 1), BLANK);
        x.recall(23);
        check.due("recalled", x.ofNote(23, 1), BLANK);
    }

    private static void whomTheCardNames() {
        EdgesTest.sentence(7, "2 whom the card names: readers (NAMED, OWNED) or groups (GROUPED), as a set,");
        Told x = with(2, 3, 3);
        check.due("BLANK", x.ofNote(0, 2), 0);
        x.read(15, 0);
        check.due("NAMED", x.ofNote(0, 2), 1 << 15);
        x.read(14, 0);
        check.due("NAMED, two", x.ofNote(0, 2), 3 << 14);
        x.read(0, 0);
        check.due("GROUPED", x.ofNote(0, 2), 1 << 5 | 1 << 4 | 1);
        x.change(14, 0, 1);
        check.due("OWNED", x.ofNote(0, 2), 1 << 14);
        x.recall(0);
        check.due("BLANK again", x.ofNote(0, 2), 0);
    }

    private static void itsCalled() {
        EdgesTest.sentence(7, "3 its called, as a set,");
        Told x = with(2, 3, 3);
        check.due("BLANK", x.ofNote(0, 3), 0);
        x.read(15, 0);
        x.read(3, 0);
        check.due("NAMED", x.ofNote(0, 3), 1 << 15 | 1 << 3);
        x.putBack(3, 0);
        check.due("NAMED without a copy", x.ofNote(0, 3), 1 << 15 | 1 << 3);
        x.read(0, 0);
        check.due("GROUPED, the last group has one reader", x.ofNote(0, 3), 1 << 15 | 63);
        for (int reader = 6; reader < 15; reader += 3) {
            x.read(reader, 0);
        }
        check.due("all readers", x.ofNote(0, 3), 0xffff);
        x.change(4, 0, 1);
        check.due("OWNED", x.ofNote(0, 3), 1 << 4);
        x.recall(0);
        check.due("BLANK again", x.ofNote(0, 3), 0);
    }

    private static void whoHasACopy() {
        EdgesTest.sentence(7, "4 the readers who have a copy of it, as a set,");
        Told x = new Told();
        check.due("nobody", x.ofNote(7, 4), 0);
        for (int reader = 0; reader < 16; reader++) {
            x.read(reader, 7);
            check.due(reader + " and those before", x.ofNote(7, 4), (2 << reader) - 1);
        }
        x.putBack(15, 7);
        check.due("all but the last", x.ofNote(7, 4), 0x7fff);
        x.putBack(0, 7);
        check.due("all but the first and the last", x.ofNote(7, 4), 0x7ffe);
        x.change(15, 7, 3);
        check.due("the owner", x.ofNote(7, 4), 1 << 15);
        x.read(15, 1);
        x.read(15, 2);
        x.read(15, 3);
        check.due("nobody any more", x.ofNote(7, 4), 0);
    }

    private static void calledWithoutACopy() {
        EdgesTest.sentence(7, "5 called who have no copy of it, how many,");
        Told x = with(0, 8, 3);
        check.due("nobody is called", x.ofNote(7, 5), 0);
        x.read(0, 7);
        check.due("seven others of the group", x.ofNote(7, 5), 7);
        x.putBack(0, 7);
        check.due("and this one", x.ofNote(7, 5), 8);
        x.read(15, 7);
        x.putBack(15, 7);
        check.due("all sixteen", x.ofNote(7, 5), 16);
        for (int reader = 0; reader < 16; reader++) {
            x.read(reader, 7);
            check.due("readings", x.ofNote(7, 5), 15 - reader);
        }
        x.change(3, 7, 1);
        check.due("an owner has it", x.ofNote(7, 5), 0);
        x = new Told();
        x.read(3, 7);
        check.due("a sharer has it", x.ofNote(7, 5), 0);
        x.putBack(3, 7);
        check.due("a sharer who put it back", x.ofNote(7, 5), 1);
    }

    private static void valueToRead() {
        EdgesTest.sentence(7, "6 the value that a reader would read now,");
        for (int owner : new int[] {0, 8, 15}) {
            Told x = new Told();
            check.due("at first", x.ofNote(9, 6), 0);
            x.change(owner, 9, 9999);
            check.due("the owner's", x.ofNote(9, 6), 9999);
            x.change(owner, 2, 50);
            x.change(owner, 9, 7);
            check.due("the owner's newest, on another place", x.ofNote(9, 6), 7);
            x.change(owner, 2, 51);
            check.due("on the first place", x.ofNote(9, 6), 7);
            x.change(16 - 1 - owner, 9, 0);
            check.due("the next owner's, 0", x.ofNote(9, 6), 0);
            check.due("in the library", x.ofNote(9, 0), 7);
            x.recall(9);
            check.due("of a BLANK card", x.ofNote(9, 6), 0);
            x.recall(2);
            check.due("of another BLANK card", x.ofNote(2, 6), 51);
            x.read(4, 2);
            check.due("of a NAMED card", x.ofNote(2, 6), 51);
            x.read(5, 2);
            x.read(6, 2);
            check.due("of a GROUPED card", x.ofNote(2, 6), 51);
            check.due("as it is read then", x.read(7, 2), 51);
        }
    }

    private static void copiesCalledBack() {
        EdgesTest.sentence(7, "7 copies of it that were called back so far,");
        for (int note : new int[] {0, 15, 16, 23}) {
            int other = 23 - note;
            Told x = with(1, 4, 3);
            check.due("none at first", x.ofNote(note, 7), 0);
            x.read(0, note);
            x.read(0, other);
            x.recall(note);
            check.due("a sharer's", x.ofNote(note, 7), 1);
            x.read(0, note);
            x.putBack(0, note);
            x.recall(note);
            check.due("one that was put back before is not", x.ofNote(note, 7), 1);
            x.change(0, note, 1);
            x.read(1, note);
            check.due("an owner's", x.ofNote(note, 7), 2);
            x.read(2, note);
            x.change(2, note, 1);
            check.due("one of a group, but the changing reader's and those who have none", x.ofNote(note, 7), 3);
            x.putBack(2, note);
            check.due("one put back is not", x.ofNote(note, 7), 3);
            check.due("of another note", x.ofNote(other, 7), 0);
        }
    }

    private static void shoutsForANote() {
        EdgesTest.sentence(7, "8 shouts for it so far");
        for (int note : new int[] {0, 15, 16, 23}) {
            Told x = with(1, 4, 3);
            x.read(0, note);
            x.recall(note);
            x.change(0, note, 1);
            x.read(1, note);
            check.due("NAMED and OWNED", x.ofNote(note, 8), 0);
            x.read(0, note);
            check.due("nobody is called", x.ofNote(note, 8), 0);
            x.change(0, note, 1);
            check.due("three others of the group", x.ofNote(note, 8), 3);
            x.read(1, note);
            x.read(15, note);
            x.change(4, note, 1);
            check.due("both groups", x.ofNote(note, 8), 3 + 8);
            x.read(1, note);
            x.read(2, note);
            x.recall(note);
            check.due("recalled", x.ofNote(note, 8), 11 + 4);
            check.due("of another note", x.ofNote(23 - note, 8), 0);
            check.due("in all", x.count(2), 15);
        }
    }

    private static void ofNoteRefused() {
        EdgesTest.sentence(7, "Returns the number; NO_SUCH if there is no such note; BAD_VALUE if what is out of range.");
        Told x = busy();
        for (int bad : NO_NOTES) {
            for (int what = -1; what <= 9; what++) {
                check.due("ofNote(" + bad + ", " + what + ")", x.ofNote(bad, what), NO_SUCH);
            }
        }
        for (int bad : new int[] {-1, 9, 10, Integer.MIN_VALUE, Integer.MAX_VALUE}) {
            check.refused("ofNote(0, " + bad + ")", x, y -> y.ofNote(0, bad), BAD_VALUE);
            check.refused("ofNote(23, " + bad + ")", x, y -> y.ofNote(23, bad), BAD_VALUE);
        }
        check.refused("ofNote(-1, 0)", x, y -> y.ofNote(-1, 0), NO_SUCH);
        check.refused("ofNote(24, 9)", x, y -> y.ofNote(24, 9), NO_SUCH);
        check.due("the lowest what", x.ofNote(0, 0), 9);
        check.due("the highest what", x.ofNote(0, 8), 0);
        check.due("the last note", x.ofNote(23, 0), 8);
    }

    private static void placeOnTheShelf() {
        EdgesTest.sentence(8, "Returns something about a copy on a shelf. - `place`: its place on the shelf, 0 for the one that "
                + "was used longest ago");
        for (int copies = 0; copies <= 8; copies++) {
            Told x = with(2, 4, 8);
            for (int note = 0; note < copies; note++) {
                x.read(15, 20 - note);
            }
            for (int place = 0; place < copies; place++) {
                check.due(copies + " copies, place " + place, x.onShelf(15, place, 0), 20 - place);
            }
            check.due(copies + " copies, place -1", x.onShelf(15, -1, 0), NO_SUCH);
            check.due(copies + " copies, the place behind", x.onShelf(15, copies, 0), NO_SUCH);
            check.due(copies + " copies, place 8", x.onShelf(15, 8, 0), NO_SUCH);
            check.due("the reader before has none", x.onShelf(14, 0, 0), NO_SUCH);
        }
        Told x = with(2, 4, 8);
        for (int note = 0; note < 8; note++) {
            x.read(0, note);
        }
        x.read(0, 0);
        check.due("used again: the first", x.onShelf(0, 0, 0), 1);
        check.due("used again: the last", x.onShelf(0, 7, 0), 0);
        x.putBack(0, 5);
        check.due("one less: the last", x.onShelf(0, 6, 0), 0);
        check.due("one less: the place behind", x.onShelf(0, 7, 0), NO_SUCH);
    }

    /** Each shelf keeps its own copies, also next to a full one. */
    private static void fullShelvesSideBySide() {
        EdgesTest.sentence(8, "Returns something about a copy on a shelf.");
        Told x = with(2, 4, 8);
        for (int note = 0; note < 8; note++) {
            x.change(4, note, 40 + note);
            x.change(5, note + 8, 50 + note);
            x.change(6, note + 16, 60 + note);
        }
        for (int reader = 4; reader <= 6; reader++) {
            for (int place = 0; place < 8; place++) {
                check.due("note of " + reader + " at " + place, x.onShelf(reader, place, 0), (reader - 4) * 8 + place);
                check.due("value of " + reader + " at " + place, x.onShelf(reader, place, 1), 10 * reader + place);
            }
            check.due("no ninth of " + reader, x.onShelf(reader, 8, 0), NO_SUCH);
        }
        x.putBack(5, 8);
        check.due("one less: the last", x.onShelf(5, 6, 0), 15);
        check.due("one less: the place behind", x.onShelf(5, 7, 0), NO_SUCH);
        check.due("the next one's first", x.onShelf(6, 0, 0), 16);
        check.due("the last one's last", x.onShelf(4, 7, 0), 7);
    }

    private static void aboutACopy() {
        EdgesTest.sentence(8, "- `what`: 0 its note, 1 its value, 2 whether it is changed (1 or 0)");
        Told x = new Told();
        x.change(0, 23, 9999);
        x.putBack(0, 23);
        x.read(0, 23);
        x.change(0, 0, 4);
        x.change(0, 9, 0);
        int[][] due = {{23, 9999, 0}, {0, 4, 1}, {9, 0, 1}};
        for (int place = 0; place < 3; place++) {
            for (int what = 0; what < 3; what++) {
                check.due("onShelf(0, " + place + ", " + what + ")", x.onShelf(0, place, what), due[place][what]);
            }
        }
        x.recall(0);
        check.due("the last one comes nearer: its note", x.onShelf(0, 1, 0), 9);
        check.due("its value", x.onShelf(0, 1, 1), 0);
        check.due("it is changed", x.onShelf(0, 1, 2), 1);
    }

    private static void onShelfRefused() {
        EdgesTest.sentence(8, "Returns the number; NO_SUCH if there is no such reader or place; BAD_VALUE if what is out of "
                + "range.");
        Told x = busy();
        check.due("a full shelf, the last place", x.onShelf(2, 1, 0), 6);
        for (int what = -1; what <= 3; what++) {
            for (int bad : NO_READERS) {
                check.due("onShelf(" + bad + ", 0, " + what + ")", x.onShelf(bad, 0, what), NO_SUCH);
            }
            for (int bad : new int[] {-1, 2, 3, 8, Integer.MIN_VALUE, Integer.MAX_VALUE}) {
                check.due("onShelf(2, " + bad + ", " + what + ")", x.onShelf(2, bad, what), NO_SUCH);
            }
            check.due("an empty shelf, " + what, x.onShelf(3, 0, what), NO_SUCH);
        }
        for (int bad : new int[] {-1, 3, 4, Integer.MIN_VALUE, Integer.MAX_VALUE}) {
            check.refused("onShelf(2, 0, " + bad + ")", x, y -> y.onShelf(2, 0, bad), BAD_VALUE);
            check.refused("onShelf(15, 0, " + bad + ")", x, y -> y.onShelf(15, 0, bad), BAD_VALUE);
        }
        check.refused("onShelf(2, 2, 0)", x, y -> y.onShelf(2, 2, 0), NO_SUCH);
        check.refused("onShelf(16, 0, 3)", x, y -> y.onShelf(16, 0, 3), NO_SUCH);
        check.refused("onShelf(2, -1, -1)", x, y -> y.onShelf(2, -1, -1), NO_SUCH);
    }

    private static void copiesOfAReader() {
        EdgesTest.sentence(9, "Returns something about a reader. - `what`: 0 the copies on the shelf,");
        for (int reader : new int[] {0, 15}) {
            Told x = with(2, 4, 8);
            for (int note = 0; note < 10; note++) {
                check.due("before reading " + note, x.ofReader(reader, 0), Math.min(8, note));
                x.read(reader, note);
            }
            check.due("of another", x.ofReader(15 - reader, 0), 0);
            x.recall(9);
            check.due("one is called back", x.ofReader(reader, 0), 7);
            x.putBack(reader, 8);
            check.due("one is put back", x.ofReader(reader, 0), 6);
        }
    }

    private static void groupOfAReader() {
        EdgesTest.sentence(9, "1 the group,");
        for (int size = 1; size <= 8; size++) {
            Told x = new Told();
            x.set(SIZE, size);
            for (int reader = 0; reader < 16; reader++) {
                check.due("SIZE " + size + ", reader " + reader, x.ofReader(reader, 1), reader / size);
            }
        }
    }

    private static void readingsAndChanges() {
        EdgesTest.sentence(9, "2 readings and changes by this reader,");
        Told x = new Told();
        check.due("at first", x.ofReader(15, 2), 0);
        x.read(15, 0);
        x.read(15, 0);
        x.change(15, 0, 1);
        x.change(15, 0, 1);
        check.due("two and two", x.ofReader(15, 2), 4);
        x.putBack(15, 0);
        x.read(15, 24);
        x.change(15, 0, 10000);
        x.change(15, -1, 0);
        x.putBack(15, 0);
        check.due("no others, and no refused ones", x.ofReader(15, 2), 4);
        x.read(14, 0);
        x.change(13, 0, 5);
        check.due("nor those of others", x.ofReader(15, 2), 4);
        Look.put(x, "r15:9;w15:9=1;c9");
        x.carryOut();
        check.due("those of a text", x.ofReader(15, 2), 6);
        check.due("one of 14", x.ofReader(14, 2), 1);
        check.due("one of 13", x.ofReader(13, 2), 1);
    }

    private static void withoutAMessage() {
        EdgesTest.sentence(9, "3 those among them for which the copy was on the shelf and no message was needed,");
        Told x = with(2, 4, 1);
        x.read(3, 0);
        check.due("there was no copy", x.ofReader(3, 3), 0);
        x.read(3, 0);
        check.due("read again", x.ofReader(3, 3), 1);
        x.change(3, 0, 1);
        check.due("a change by a sharer takes two messages", x.ofReader(3, 3), 1);
        x.change(3, 0, 1);
        check.due("a change by the owner takes none", x.ofReader(3, 3), 2);
        x.read(3, 0);
        check.due("read by the owner", x.ofReader(3, 3), 3);
        x.read(4, 0);
        x.read(3, 0);
        check.due("called back between", x.ofReader(3, 3), 3);
        x.read(3, 1);
        x.read(3, 0);
        check.due("put back between, without a word", x.ofReader(3, 3), 3);
        x.change(5, 7, 1);
        check.due("a change anew", x.ofReader(5, 3), 0);
        check.due("all of them", x.ofReader(3, 2), 8);
    }

    private static void calledBackFromAReader() {
        EdgesTest.sentence(9, "4 copies that were called back from this reader,");
        Told x = with(1, 4, 3);
        x.read(0, 0);
        x.read(1, 0);
        x.recall(0);
        for (int reader = 0; reader < 16; reader++) {
            check.due("from " + reader, x.ofReader(reader, 4), reader < 2 ? 1 : 0);
        }
        x.change(0, 0, 1);
        x.change(1, 0, 1);
        check.due("an owner's", x.ofReader(0, 4), 2);
        x.putBack(1, 0);
        check.due("one put back is not", x.ofReader(1, 4), 1);
        x.read(1, 5);
        x.read(1, 6);
        x.recall(5);
        x.recall(6);
        check.due("of any note", x.ofReader(1, 4), 3);
        x.read(1, 7);
        x.change(1, 7, 1);
        check.due("the changing reader's own is not", x.ofReader(1, 4), 3);
    }

    private static void wastedOnAReader() {
        EdgesTest.sentence(9, "5 wasted messages to this reader,");
        Told x = with(1, 4, 3);
        x.read(0, 0);
        x.read(5, 0);
        x.recall(0);
        for (int reader = 0; reader < 16; reader++) {
            check.due("to " + reader, x.ofReader(reader, 5), reader < 8 && reader != 0 && reader != 5 ? 1 : 0);
        }
        x.read(0, 0);
        x.putBack(0, 0);
        x.change(9, 0, 1);
        check.due("to a sharer who put it back", x.ofReader(0, 5), 1);
        x.read(0, 1);
        x.putBack(0, 1);
        x.change(0, 1, 2);
        check.due("none to the changing reader", x.ofReader(0, 5), 1);
        check.due("in all", x.count(1), 7);
    }

    private static void notesThatCall() {
        EdgesTest.sentence(9, "6 notes whose card would call this reader, as a set");
        Told x = with(0, 8, 1);
        check.due("none", x.ofReader(15, 6), 0);
        for (int note = 0; note < 24; note++) {
            x.read(8, note);
            check.due("one more for each of the group", x.ofReader(15, 6), (2 << note) - 1);
        }
        check.due("for the first of the group", x.ofReader(8, 6), 0xffffff);
        check.due("for the last of the other group", x.ofReader(7, 6), 0);
        x.recall(23);
        check.due("all but the last", x.ofReader(15, 6), 0x7fffff);
        x.change(15, 0, 1);
        check.due("an owned one", x.ofReader(15, 6), 0x7fffff);
        check.due("is called from nobody else", x.ofReader(8, 6), 0x7ffffe);
        x = new Told();
        x.read(3, 23);
        x.read(2, 0);
        x.putBack(3, 23);
        check.due("a sharer, even without the copy", x.ofReader(3, 6), 1 << 23);
        check.due("its neighbour", x.ofReader(2, 6), 1);
    }

    private static void ofReaderRefused() {
        EdgesTest.sentence(9, "Returns the number; NO_SUCH if there is no such reader; BAD_VALUE if what is out of range.");
        Told x = busy();
        for (int bad : NO_READERS) {
            for (int what = -1; what <= 7; what++) {
                check.due("ofReader(" + bad + ", " + what + ")", x.ofReader(bad, what), NO_SUCH);
            }
        }
        for (int bad : new int[] {-1, 7, 8, Integer.MIN_VALUE, Integer.MAX_VALUE}) {
            check.refused("ofReader(0, " + bad + ")", x, y -> y.ofReader(0, bad), BAD_VALUE);
            check.refused("ofReader(15, " + bad + ")", x, y -> y.ofReader(15, bad), BAD_VALUE);
        }
        check.refused("ofReader(-1, 0)", x, y -> y.ofReader(-1, 0), NO_SUCH);
        check.refused("ofReader(16, 7)", x, y -> y.ofReader(16, 7), NO_SUCH);
        check.due("the lowest what", x.ofReader(15, 0), 1);
        check.due("the highest what", x.ofReader(2, 6), 1 | 1 << 5 | 1 << 6 | 1 << 23);
    }

    private static void messages() {
        EdgesTest.sentence(10, "Returns a number. - `what`: 0 messages so far,");
        Told x = new Told();
        check.due("at first", x.count(0), 0);
        x.read(0, 0);
        check.due("to ask, and the copy", x.count(0), 2);
        x.read(0, 0);
        check.due("none", x.count(0), 2);
        x.change(0, 0, 1);
        check.due("to ask, and the answer", x.count(0), 4);
        x.putBack(0, 0);
        check.due("a changed copy is put back", x.count(0), 5);
        x.read(0, 0);
        x.recall(0);
        check.due("called, and the answer", x.count(0), 9);
        x.costOfReading(0, 0);
        x.costOfChange(0, 0, 0);
        x.best(2);
        check.due("what-ifs take none", x.count(0), 9);
        x.undo();
        check.due("undone", x.count(0), 7);
    }

    private static void wastedAndShouts() {
        EdgesTest.sentence(10, "1 wasted ones, 2 shouts,");
        Told x = with(0, 2, 3);
        check.due("wasted, none", x.count(1), 0);
        check.due("shouts, none", x.count(2), 0);
        x.read(0, 0);
        x.recall(0);
        check.due("wasted, one", x.count(1), 1);
        check.due("shouts, two", x.count(2), 2);
        x.set(NAMES, 1);
        x.read(0, 0);
        x.putBack(0, 0);
        x.recall(0);
        check.due("wasted, a call by name", x.count(1), 2);
        check.due("it is no shout", x.count(2), 2);
    }

    private static void copiesOnAllShelves() {
        EdgesTest.sentence(10, "3 copies on all shelves, 4 changed ones among them,");
        Told x = with(2, 4, 8);
        check.due("no copies", x.count(3), 0);
        check.due("no changed ones", x.count(4), 0);
        for (int note = 0; note < 24; note++) {
            x.change(note / 8, note, 1);
            check.due("copies", x.count(3), note + 1);
            check.due("all are changed", x.count(4), note + 1);
        }
        for (int copy = 24; copy < 128; copy++) {
            x.read(copy / 8, copy % 8);
        }
        // The notes 0 to 7 went from their owner to thirteen others.
        check.due("copies of thirteen and two", x.count(3), 13 * 8 + 2 * 8);
        check.due("changed ones of two", x.count(4), 2 * 8);
        for (int note = 0; note < 8; note++) {
            x.read(0, note);
        }
        check.due("all shelves are full", x.count(3), 128);
        check.due("the changed ones stay", x.count(4), 2 * 8);
        x.putBack(1, 8);
        x.putBack(15, 0);
        check.due("two less", x.count(3), 126);
        check.due("one changed one less", x.count(4), 15);
    }

    private static void cards() {
        EdgesTest.sentence(10, "5 cards that are not BLANK, 6 cards that are GROUPED,");
        Told x = with(0, 4, 1);
        check.due("none in use", x.count(5), 0);
        check.due("none GROUPED", x.count(6), 0);
        for (int note = 0; note < 24; note++) {
            x.read(0, note);
            check.due("in use", x.count(5), note + 1);
            check.due("GROUPED", x.count(6), note + 1);
        }
        x.change(0, 23, 1);
        check.due("an owned one is in use", x.count(5), 24);
        check.due("it is not GROUPED", x.count(6), 23);
        x.recall(0);
        check.due("a BLANK one is not in use", x.count(5), 23);
        check.due("nor GROUPED", x.count(6), 22);
        x = new Told();
        x.read(0, 0);
        check.due("a NAMED one is in use", x.count(5), 1);
        check.due("but not GROUPED", x.count(6), 0);
    }

    private static void settings() {
        EdgesTest.sentence(10, "7 to 10 the settings,");
        Told x = new Told();
        int[] first = {2, 4, 3, 0};
        int[] next = {4, 8, 7, 1};
        for (int setting = 0; setting < 4; setting++) {
            check.due("setting " + setting + " at first", x.count(7 + setting), first[setting]);
        }
        for (int setting = 0; setting < 4; setting++) {
            x.set(setting, next[setting]);
        }
        for (int setting = 0; setting < 4; setting++) {
            check.due("setting " + setting, x.count(7 + setting), next[setting]);
        }
    }

    private static void padAndHistory() {
        EdgesTest.sentence(10, "11 the length of the pad, 12 how many changes can be undone");
        Told x = new Told();
        check.due("an empty pad", x.count(11), 0);
        for (int length = 1; length <= 80; length++) {
            x.put('!');
            check.due("the pad", x.count(11), length);
        }
        x.put('!');
        check.due("a full pad", x.count(11), 80);
        check.due("no change yet", x.count(12), 0);
        for (int changes = 1; changes <= 8; changes++) {
            x.account();
            check.due("changes", x.count(12), Math.min(6, changes));
        }
        x.undo();
        check.due("one is undone", x.count(12), 5);
        check.due("the pad stays", x.count(11), 80);
        x.wipe();
        check.due("wiped", x.count(11), 0);
        check.due("that is no change", x.count(12), 5);
    }

    private static void countRefused() {
        EdgesTest.sentence(10, "Returns the number; BAD_VALUE if what is out of range.");
        Told x = busy();
        for (int bad : new int[] {-1, 13, 14, Integer.MIN_VALUE, Integer.MAX_VALUE}) {
            check.refused("count(" + bad + ")", x, y -> y.count(bad), BAD_VALUE);
        }
        check.due("the highest what", x.count(12), 6);
        check.due("the lowest what", x.count(0), 2 + 4 + 2 + 2 + 4 + 2 + 2);
    }
}

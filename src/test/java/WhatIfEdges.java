/** Promises 11 to 14: costOfReading, costOfChange, cheapest, loudest. */
final class WhatIfEdges {
    private static final int NAMES = ShoutGroups.NAMES, SIZE = ShoutGroups.SIZE;
    private static final int ROOM = ShoutGroups.ROOM, FORGET = ShoutGroups.FORGET;
    private static final int NO_SUCH = ShoutGroups.NO_SUCH, BAD_VALUE = ShoutGroups.BAD_VALUE, NONE = ShoutGroups.NONE;
    private static final int[] NO_READERS = {-1, 16, 17, Integer.MIN_VALUE, Integer.MAX_VALUE};
    private static final int[] NO_NOTES = {-1, 24, 25, Integer.MIN_VALUE, Integer.MAX_VALUE};
    private static final Check check = EdgesTest.CHECK;

    static void all() {
        nothingChanges();
        reading();
        readingWithRoomToMake();
        readingNextToFullShelves();
        readingRefused();
        changing();
        changingWithRoomToMake();
        wastedByAChange();
        changingRefused();
        cheapest();
        cheapestOfSeveral();
        cheapestRefused();
        loudest();
        loudestOfSeveral();
        noneIsWasted();
        loudestRefused();
    }

    private static Told with(int names, int size, int room, int forget) {
        Told x = new Told();
        x.set(NAMES, names);
        x.set(SIZE, size);
        x.set(ROOM, room);
        x.set(FORGET, forget);
        return x;
    }

    /** A full shelf with a changed copy, one without, cards of each kind, a pad, a slot and a full history. */
    private static Told busy() {
        Told x = with(1, 4, 2, 1);
        x.read(4, 0);
        x.read(12, 0);
        x.save(0);
        x.change(15, 23, 8);
        x.read(15, 22);
        x.read(0, 1);
        x.read(0, 2);
        Look.put(x, "r0:0;w15:23=4");
        return x;
    }

    private static void nothingChanges() {
        EdgesTest.sentence(0, "Ahead of the calls `costOfReading`, `costOfChange`, `cheapest`, `loudest`, `accountWith`, `best` "
                + "the interface says: ---- what if; nothing changes.");
        Told x = busy();
        Told y = x.again();
        for (int note = -1; note <= 24; note++) {
            for (int reader = -1; reader <= 16; reader += 4) {
                y.costOfReading(reader, note);
                y.costOfChange(reader, note, 0);
                y.costOfChange(reader, note, 1);
            }
            y.cheapest(note);
        }
        for (int what = -1; what <= 3; what++) {
            y.loudest(what);
            y.accountWith(what, 8);
            y.best(what);
        }
        y.costOfChange(0, 0, 2);
        check.due("asked", Look.whole(y), Look.whole(x));
    }

    /** What reading would take, and does take. */
    private static void takes(String name, Told x, int reader, int note, int messages) {
        check.due(name + ": costOfReading(" + reader + ", " + note + ")", x.costOfReading(reader, note), messages);
        Told y = x.again();
        int before = y.count(0);
        y.read(reader, note);
        check.due(name + ": messages of read(" + reader + ", " + note + ")", y.count(0) - before, messages);
    }

    private static void reading() {
        EdgesTest.sentence(11, "Tells how many messages it would take if a reader read a note now.");
        Told x = new Told();
        takes("a BLANK card", x, 0, 0, 2);
        takes("a BLANK card", x, 15, 23, 2);
        x.read(0, 0);
        takes("the copy is there", x, 0, 0, 0);
        takes("another named", x, 1, 0, 2);
        x.read(1, 0);
        x.read(2, 0);
        takes("a GROUPED card, of the group", x, 3, 0, 2);
        takes("a GROUPED card, of another group", x, 15, 0, 2);
        x.putBack(0, 0);
        takes("put back", x, 0, 0, 2);
        x.change(15, 0, 4);
        takes("the owner", x, 15, 0, 0);
        takes("an owned note", x, 0, 0, 2 + 2);
        x.putBack(15, 0);
        takes("the owner put it back", x, 0, 0, 2);
    }

    private static void readingWithRoomToMake() {
        EdgesTest.sentence(11, "how many messages it would take if a reader read a note now.");
        for (int forget = 0; forget <= 1; forget++) {
            Told x = with(2, 4, 3, forget);
            x.read(5, 0);
            x.change(5, 1, 9);
            takes("one place is free", x, 5, 9, 2);
            x.read(5, 2);
            takes("full, the oldest not changed", x, 5, 9, 2 + forget);
            x.read(5, 0);
            takes("full, the oldest changed", x, 5, 9, 2 + 1);
            takes("full, the copy is there", x, 5, 2, 0);
            x.change(6, 9, 1);
            takes("full, and owned by another", x, 5, 9, 2 + 1 + 2);
            takes("another's shelf", x, 6, 2, 2);
            x = with(2, 4, 8, forget);
            for (int note = 0; note < 8; note++) {
                x.read(5, note);
            }
            x.change(5, 2, 1);
            x.change(5, 0, 1);
            x.read(5, 7);
            // The notes lie as 1 3 4 5 6 2 0 7, with 2 and 0 changed.
            int[] due = {2 + 2 + 6 * forget, 2 + 2 + 5 * forget, 2 + 1 + 5 * forget, 2 + 5 * forget, 2 + 4 * forget,
                2 + 3 * forget, 2 + 2 * forget, 2 + forget};
            for (int room = 1; room <= 8; room++) {
                x.set(ROOM, room);
                takes("eight copies, ROOM " + room, x, 5, 20, due[room - 1]);
                takes("more than there is room for, the copy is there", x, 5, 1, 0);
            }
        }
    }

    /** What lies on other shelves has no part in the room to make on this one. */
    private static void readingNextToFullShelves() {
        EdgesTest.sentence(11, "how many messages it would take if a reader read a note now.");
        for (int forget = 0; forget <= 1; forget++) {
            Told x = with(2, 4, 8, forget);
            for (int note = 0; note < 8; note++) {
                x.change(4, note, 1);
                x.change(6, note + 8, 1);
            }
            takes("an empty shelf", x, 5, 20, 2);
            check.due("a change", x.costOfChange(5, 20, 0), 2);
            takes("a full one before", x, 4, 20, 2 + 1);
            takes("a full one behind", x, 6, 20, 2 + 1);
            takes("the first shelf", x, 0, 20, 2);
            takes("the last shelf", x, 15, 20, 2);
        }
    }

    private static void readingRefused() {
        EdgesTest.sentence(11, "Returns how many; NO_SUCH if there is no such reader or note.");
        Told x = busy();
        for (int bad : NO_READERS) {
            check.refused("costOfReading(" + bad + ", 0)", x, y -> y.costOfReading(bad, 0), NO_SUCH);
        }
        for (int bad : NO_NOTES) {
            check.refused("costOfReading(0, " + bad + ")", x, y -> y.costOfReading(0, bad), NO_SUCH);
        }
        check.refused("costOfReading(16, 24)", x, y -> y.costOfReading(16, 24), NO_SUCH);
        check.due("the last reader and note", x.costOfReading(15, 23), 0);
        check.due("the first reader and note", x.costOfReading(0, 0), 2 + 1);
    }

    /** What a change would take and waste, and does. */
    private static void takes(String name, Told x, int reader, int note, int messages, int wasted) {
        String call = "costOfChange(" + reader + ", " + note + ", ";
        check.due(name + ": " + call + "0)", x.costOfChange(reader, note, 0), messages);
        check.due(name + ": " + call + "1)", x.costOfChange(reader, note, 1), wasted);
        Told y = x.again();
        int before = y.count(1);
        check.due(name + ": change(" + reader + ", " + note + ", 0)", y.change(reader, note, 0), messages);
        check.due(name + ": what it wastes", y.count(1) - before, wasted);
    }

    private static void changing() {
        EdgesTest.sentence(12, "Tells how many messages it would take if a reader changed a note now, or how many of them would "
                + "be wasted. - `what`: 0 all messages,");
        Told x = new Told();
        takes("a BLANK card", x, 0, 0, 2, 0);
        takes("a BLANK card", x, 15, 23, 2, 0);
        x.read(3, 7);
        takes("the only sharer", x, 3, 7, 2, 0);
        takes("another", x, 4, 7, 2 + 2, 0);
        x.read(15, 7);
        takes("one of two sharers", x, 3, 7, 2 + 2, 0);
        takes("another than the two", x, 4, 7, 4 + 2, 0);
        x.putBack(15, 7);
        takes("the other has no copy", x, 3, 7, 1 + 2, 1);
        takes("the one named has no copy itself", x, 15, 7, 2 + 2, 0);
        takes("one of two has no copy", x, 4, 7, 3 + 2, 1);
        x.read(8, 7);
        // GROUPED now: 0 to 3, 8 to 11 and 12 to 15, and the readers 3 and 8 have copies.
        takes("of a group, with a copy", x, 3, 7, 11 + 1 + 2, 10);
        takes("of a group, without a copy", x, 0, 7, 11 + 2 + 2, 9);
        takes("of no group", x, 4, 7, 12 + 2 + 2, 10);
        x.change(4, 7, 1);
        takes("the owner", x, 4, 7, 0, 0);
        takes("not the owner", x, 5, 7, 2 + 2, 0);
    }

    private static void changingWithRoomToMake() {
        EdgesTest.sentence(12, "how many messages it would take if a reader changed a note now,");
        for (int forget = 0; forget <= 1; forget++) {
            Told x = with(2, 4, 2, forget);
            x.read(5, 0);
            takes("one place is free", x, 5, 9, 2, 0);
            x.change(5, 1, 3);
            takes("full, the oldest not changed", x, 5, 9, 2 + forget, 0);
            takes("full, the copy is there", x, 5, 0, 2, 0);
            takes("full, the owner", x, 5, 1, 0, 0);
            x.read(5, 0);
            takes("full, the oldest changed", x, 5, 9, 2 + 1, 0);
            x.change(6, 9, 1);
            takes("full, and owned by another", x, 5, 9, 2 + 1 + 2, 0);
            x.set(ROOM, 1);
            takes("more than there is room for", x, 5, 9, 2 + 1 + forget + 2, 0);
            takes("more than there is room for, the copy is there", x, 5, 0, 2, 0);
            takes("more than there is room for, the owner", x, 5, 1, 0, 0);
            x.set(ROOM, 3);
            takes("one place is free again", x, 5, 9, 2 + 2, 0);
        }
    }

    private static void wastedByAChange() {
        EdgesTest.sentence(12, "1 wasted ones");
        Told x = with(0, 8, 3, 0);
        x.read(0, 7);
        takes("seven others", x, 0, 7, 7 + 2, 7);
        takes("six others and one", x, 7, 7, 7 + 1 + 2, 6);
        takes("of the other group", x, 8, 7, 8 + 1 + 2, 7);
        x.putBack(0, 7);
        x.read(15, 7);
        x.putBack(15, 7);
        takes("all others", x, 3, 7, 15 + 2, 15);
        for (int reader = 0; reader < 16; reader++) {
            x.read(reader, 7);
        }
        takes("all have a copy", x, 3, 7, 30 + 2, 0);
    }

    private static void changingRefused() {
        EdgesTest.sentence(12, "Returns how many; NO_SUCH if there is no such reader or note; BAD_VALUE if what is neither 0 nor "
                + "1.");
        Told x = busy();
        for (int what = -1; what <= 2; what++) {
            int each = what;
            for (int bad : NO_READERS) {
                check.due("costOfChange(" + bad + ", 0, " + what + ")", x.costOfChange(bad, 0, what), NO_SUCH);
            }
            for (int bad : NO_NOTES) {
                check.due("costOfChange(0, " + bad + ", " + what + ")", x.costOfChange(0, bad, what), NO_SUCH);
            }
            check.refused("costOfChange(-1, 0, " + what + ")", x, y -> y.costOfChange(-1, 0, each), NO_SUCH);
            check.refused("costOfChange(0, 24, " + what + ")", x, y -> y.costOfChange(0, 24, each), NO_SUCH);
        }
        for (int bad : new int[] {-1, 2, 3, Integer.MIN_VALUE, Integer.MAX_VALUE}) {
            check.refused("costOfChange(0, 0, " + bad + ")", x, y -> y.costOfChange(0, 0, bad), BAD_VALUE);
            // To the owner itself nothing is to pay, but the question stays wrong.
            check.refused("costOfChange(15, 23, " + bad + ")", x, y -> y.costOfChange(15, 23, bad), BAD_VALUE);
        }
        check.due("the last reader and note", x.costOfChange(15, 23, 0), 0);
        check.due("the first reader and note", x.costOfChange(0, 0, 0), 8 + 2 + 1 + 2);
        check.due("the first reader and note, wasted", x.costOfChange(0, 0, 1), 6);
    }

    private static void cheapest() {
        EdgesTest.sentence(13, "Finds the reader by whom a change of a note would take the fewest messages now,");
        for (int reader = 0; reader < 16; reader++) {
            Told x = new Told();
            x.change(reader, 9, 1);
            check.due("the owner " + reader, x.cheapest(9), reader);
            x = new Told();
            x.read(reader, 9);
            check.due("the sharer " + reader, x.cheapest(9), reader);
            x.putBack(reader, 9);
            check.due("one named without a copy, " + reader, x.cheapest(9), reader);
        }
        Told x = with(0, 4, 3, 0);
        x.read(6, 9);
        check.due("one with a copy of the group", x.cheapest(9), 6);
        x.putBack(6, 9);
        check.due("one of the group", x.cheapest(9), 4);
        x = with(2, 4, 1, 0);
        x.read(3, 9);
        x.read(2, 9);
        x.putBack(2, 9);
        // By 3 it takes 1 + 2, by 2 it takes 2 + 2, by others 3 + 2.
        check.due("the other is called in vain", x.cheapest(9), 3);
        x = with(2, 4, 1, 0);
        x.read(3, 9);
        x.putBack(3, 9);
        x.change(3, 10, 1);
        // By 3 it takes one to make room and 2, by others 1 + 2.
        check.due("named, but with room to make", x.cheapest(9), 0);
    }

    private static void cheapestOfSeveral() {
        EdgesTest.sentence(13, "of several the lowest one.");
        Told x = new Told();
        for (int note = 0; note < 24; note++) {
            check.due("all alike, note " + note, x.cheapest(note), 0);
        }
        x = with(2, 4, 1, 0);
        for (int reader = 0; reader < 15; reader++) {
            x.change(reader, 1 + reader, 1);
            check.due("those up to " + reader + " have room to make", x.cheapest(0), reader + 1);
        }
        x.change(15, 16, 1);
        check.due("all have", x.cheapest(0), 0);
        x = new Told();
        x.read(12, 5);
        x.read(7, 5);
        check.due("two sharers", x.cheapest(5), 7);
        x.read(14, 5);
        check.due("three sharers of named groups", x.cheapest(5), 7);
    }

    private static void cheapestRefused() {
        EdgesTest.sentence(13, "Returns the reader; NO_SUCH if there is no such note.");
        Told x = busy();
        for (int bad : NO_NOTES) {
            check.refused("cheapest(" + bad + ")", x, y -> y.cheapest(bad), NO_SUCH);
        }
        check.due("the first note", x.cheapest(0), 4);
        check.due("the last note", x.cheapest(23), 15);
    }

    private static void loudest(String name, Told x, int note, int wasted) {
        check.due(name + ": loudest(0)", x.loudest(0), note);
        check.due(name + ": loudest(1)", x.loudest(1), wasted);
    }

    private static void loudest() {
        EdgesTest.sentence(14, "Finds the note a change of which would waste the most messages now, even if a reader by whom it "
                + "wastes the fewest changed it;");
        Told x = with(2, 4, 3, 0);
        x.read(3, 23);
        x.read(4, 23);
        x.putBack(3, 23);
        x.putBack(4, 23);
        loudest("two without a copy, by one of them", x, 23, 1);
        x.read(5, 0);
        x.read(6, 0);
        x.read(12, 0);
        // The silent ones are 4, 7, 13, 14 and 15; by one of them it wastes four.
        loudest("two groups with three copies", x, 0, 4);
        x.read(7, 0);
        loudest("with four copies", x, 0, 3);
        x = with(0, 8, 3, 0);
        x.read(0, 11);
        x.read(8, 11);
        loudest("all but two in vain", x, 11, 13);
        x.putBack(0, 11);
        x.putBack(8, 11);
        loudest("all in vain", x, 11, 15);
        x.change(0, 11, 1);
        loudest("owned then", x, NONE, NONE);
    }

    private static void loudestOfSeveral() {
        EdgesTest.sentence(14, "of several the lowest note.");
        Told x = with(0, 4, 8, 0);
        x.read(0, 23);
        loudest("the last note", x, 23, 2);
        x.read(5, 10);
        loudest("as many by a lower note", x, 10, 2);
        x.read(9, 0);
        loudest("as many by the first note", x, 0, 2);
        x.read(8, 0);
        loudest("less by the first note", x, 10, 2);
        x.putBack(0, 23);
        loudest("more by the last note", x, 23, 3);
    }

    private static void noneIsWasted() {
        EdgesTest.sentence(14, "NONE if none would be wasted for any note.");
        Told x = new Told();
        loudest("BLANK cards", x, NONE, NONE);
        x.read(0, 0);
        x.read(15, 0);
        x.change(3, 23, 1);
        loudest("sharers with copies, and an owner", x, NONE, NONE);
        x.putBack(0, 0);
        loudest("one without a copy could change it", x, NONE, NONE);
        x.putBack(15, 0);
        loudest("two without a copy", x, 0, 1);
        x = with(0, 2, 3, 0);
        x.read(2, 8);
        loudest("one in vain in the group", x, NONE, NONE);
        x.putBack(2, 8);
        loudest("two in vain in the group", x, 8, 1);
        x.read(2, 8);
        x.read(3, 8);
        loudest("all of the group have a copy", x, NONE, NONE);
    }

    private static void loudestRefused() {
        EdgesTest.sentence(14, "- `what`: 0 the note, 1 how many would be wasted Returns the number; BAD_VALUE if what is "
                + "neither 0 nor 1;");
        Told nothing = new Told();
        Told x = busy();
        for (int bad : new int[] {-1, 2, 3, Integer.MIN_VALUE, Integer.MAX_VALUE}) {
            check.refused("loudest(" + bad + ")", x, y -> y.loudest(bad), BAD_VALUE);
            check.refused("loudest(" + bad + ") when there is none", nothing, y -> y.loudest(bad), BAD_VALUE);
        }
        check.due("the note", x.loudest(0), 0);
        check.due("how many", x.loudest(1), 5);
        check.due("the note when there is none", nothing.loudest(0), NONE);
        check.due("how many when there is none", nothing.loudest(1), NONE);
    }
}

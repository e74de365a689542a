/** Promises 11 to 14: costOfReading, costOfChange, cheapest, loudest. */
public final class WhatIfTest {
    private static final Check check = new Check();

    public static void main(String[] args) {
        reading();
        changing();
        cheapest();
        loudest();
        loudestOfNone();
        nothingChanges();
        errors();
        check.end();
    }

    private static void reading() {
        Told x = new Told();
        check.due("a BLANK card", x.costOfReading(0, 0), 2);
        x.change(1, 0, 5);
        check.due("an owner to call", x.costOfReading(0, 0), 4);
        check.due("the owner", x.costOfReading(1, 0), 0);
        x.read(1, 1);
        x.change(1, 2, 5);
        check.due("a full shelf, changed", x.costOfReading(1, 5), 3);
        x.read(1, 0);
        check.due("a full shelf, not changed", x.costOfReading(1, 5), 2);
        x.set(ShoutGroups.FORGET, 1);
        check.due("a full shelf, not changed, FORGET", x.costOfReading(1, 5), 3);
        x.set(ShoutGroups.ROOM, 1);
        check.due("three to put back, FORGET", x.costOfReading(1, 5), 5);
        x.set(ShoutGroups.FORGET, 0);
        check.due("three to put back", x.costOfReading(1, 5), 4);
        x.change(3, 5, 1);
        check.due("three to put back, an owner to call", x.costOfReading(1, 5), 6);
        check.due("a copy that is there", x.costOfReading(1, 1), 0);
    }

    private static void changing() {
        Told x = new Told();
        x.read(0, 0);
        x.read(1, 0);
        check.due("a sharer", x.costOfChange(0, 0, 0), 4);
        check.due("a stranger", x.costOfChange(5, 0, 0), 6);
        x.putBack(1, 0);
        check.due("a stranger, one in vain", x.costOfChange(5, 0, 0), 5);
        check.due("wasted", x.costOfChange(5, 0, 1), 1);
        check.due("wasted by 1 itself", x.costOfChange(1, 0, 1), 0);
        check.due("1 itself", x.costOfChange(1, 0, 0), 4);
        x.change(9, 1, 1);
        check.due("the owner", x.costOfChange(9, 1, 0), 0);
        check.due("wasted by the owner", x.costOfChange(9, 1, 1), 0);
        check.due("an owner to call", x.costOfChange(8, 1, 0), 4);
        x.set(ShoutGroups.ROOM, 1);
        check.due("room to make", x.costOfChange(9, 2, 0), 3);
        x.set(ShoutGroups.ROOM, 8);
        x.set(ShoutGroups.FORGET, 1);
        check.due("a shelf far from full", x.costOfChange(0, 5, 0), 2);
        x.set(ShoutGroups.FORGET, 0);
        x.set(ShoutGroups.ROOM, 1);
        check.due("a full shelf with the copy itself", x.costOfChange(0, 0, 0), 3);
    }

    private static void cheapest() {
        Told x = new Told();
        check.due("all alike", x.cheapest(0), 0);
        x.change(11, 0, 1);
        check.due("the owner", x.cheapest(0), 11);
        x.read(7, 1);
        x.read(12, 1);
        check.due("the lower one of two sharers", x.cheapest(1), 7);
        x.set(ShoutGroups.ROOM, 1);
        x.change(0, 5, 1);
        check.due("0 has to make room", x.cheapest(6), 1);
        check.due("the last note", x.cheapest(23), 1);
    }

    private static void loudest() {
        Told x = new Told();
        x.read(3, 4);
        x.putBack(3, 4);
        check.due("the only one without a copy can change it", x.loudest(0), ShoutGroups.NONE);
        check.due("how many", x.loudest(1), ShoutGroups.NONE);
        x.read(5, 4);
        x.putBack(5, 4);
        check.due("one of two is called in vain", x.loudest(0), 4);
        check.due("one", x.loudest(1), 1);
        x.read(3, 2);
        x.read(5, 2);
        x.putBack(3, 2);
        x.putBack(5, 2);
        check.due("the lower note of two", x.loudest(0), 2);
        x.read(6, 20);
        x.read(7, 20);
        x.read(15, 20);
        check.due("groups are louder", x.loudest(0), 20);
        check.due("five in vain, less one", x.loudest(1), 4);
        for (int reader = 0; reader < 16; reader += 4) {
            x.read(reader, 0);
            x.read(reader, 23);
        }
        check.due("the lowest note", x.loudest(0), 0);
        check.due("twelve in vain, less one", x.loudest(1), 11);
        x.recall(0);
        check.due("the highest note", x.loudest(0), 23);
    }

    private static void loudestOfNone() {
        Told x = new Told();
        check.due("loudest(0)", x.loudest(0), ShoutGroups.NONE);
        check.due("loudest(1)", x.loudest(1), ShoutGroups.NONE);
        x.change(0, 0, 1);
        x.read(1, 1);
        check.due("loudest(0) without a waste", x.loudest(0), ShoutGroups.NONE);
    }

    private static void nothingChanges() {
        Told x = new Told();
        for (int i = 0; i < 20; i++) {
            x.read(i * 7 % 16, i * 5 % 9);
            x.change(i * 3 % 16, i * 5 % 7, i);
        }
        String before = Look.whole(x);
        Told y = x.again();
        for (int note = 0; note < 24; note++) {
            y.cheapest(note);
        }
        y.loudest(0);
        y.loudest(1);
        check.due("cheapest() and loudest()", Look.whole(y), before);
        for (int reader = 0; reader < 16; reader++) {
            Told z = x.again();
            for (int note = 0; note < 24; note++) {
                z.costOfReading(reader, note);
                z.costOfChange(reader, note, 0);
                z.costOfChange(reader, note, 1);
            }
            check.due("what costs " + reader, Look.everything(z), before.substring(0, before.indexOf("\n-- ")));
        }
    }

    private static void errors() {
        Told x = new Told();
        for (int bad : new int[] {-1, 16, Integer.MIN_VALUE, Integer.MAX_VALUE}) {
            check.due("costOfReading(" + bad + ", 0)", x.costOfReading(bad, 0), ShoutGroups.NO_SUCH);
            check.due("costOfChange(" + bad + ", 0, 2)", x.costOfChange(bad, 0, 2), ShoutGroups.NO_SUCH);
        }
        for (int bad : new int[] {-1, 24, Integer.MIN_VALUE, Integer.MAX_VALUE}) {
            check.due("costOfReading(0, " + bad + ")", x.costOfReading(0, bad), ShoutGroups.NO_SUCH);
            check.due("costOfChange(0, " + bad + ", 2)", x.costOfChange(0, bad, 2), ShoutGroups.NO_SUCH);
            check.due("cheapest(" + bad + ")", x.cheapest(bad), ShoutGroups.NO_SUCH);
        }
        for (int bad : new int[] {-1, 2, Integer.MIN_VALUE, Integer.MAX_VALUE}) {
            check.due("costOfChange(0, 0, " + bad + ")", x.costOfChange(0, 0, bad), ShoutGroups.BAD_VALUE);
            check.due("loudest(" + bad + ")", x.loudest(bad), ShoutGroups.BAD_VALUE);
        }
    }
}

import java.util.ArrayList;
import java.util.List;

/** Promises 22 to 24: undo, save, restore. */
final class UndoEdges {
    private static final int NAMES = ShoutGroups.NAMES, SIZE = ShoutGroups.SIZE;
    private static final int ROOM = ShoutGroups.ROOM, FORGET = ShoutGroups.FORGET;
    private static final int BAD_VALUE = ShoutGroups.BAD_VALUE, NOT_POSSIBLE = ShoutGroups.NOT_POSSIBLE;
    private static final int NONE = ShoutGroups.NONE;
    private static final int LONGEST = 6;
    private static final int[] NO_SLOTS = {-1, 2, 3, Integer.MIN_VALUE, Integer.MAX_VALUE};
    private static final Check check = EdgesTest.CHECK;

    static void all() {
        asItWasBefore();
        exceptThePad();
        exceptTheSlots();
        exceptTheHistory();
        eachChangeRecords();
        nothingElseRecords();
        atMostSix();
        dropsTheOldest();
        ordersRecordNothing();
        undoAnswers();
        undoRefused();
        savesEverything();
        savesNoMore();
        overwrites();
        twoSlots();
        saveAnswers();
        saveRefused();
        restoresTheLast();
        slotKeepsIt();
        restoreIsAChange();
        restoreAnswers();
        restoreRefused();
    }

    private static Told with(int names, int size, int room, int forget) {
        Told x = new Told();
        x.set(NAMES, names);
        x.set(SIZE, size);
        x.set(ROOM, room);
        x.set(FORGET, forget);
        return x;
    }

    /** Cards of each kind, calls back, wasted messages, shouts, changed and unchanged copies. */
    private static Told used() {
        Told x = with(1, 4, 2, 1);
        x.read(0, 0);
        x.read(5, 0);
        x.change(5, 0, 9);
        x.read(6, 0);
        x.read(6, 1);
        x.read(6, 1);
        x.change(6, 2, 8);
        x.read(15, 3);
        x.read(14, 3);
        return x;
    }

    /** Each call that is a change, with answers of both kinds where there are two. */
    private static int changeBy(int kind, Told x) {
        switch (kind) {
            case 0: return x.set(ROOM, 7);
            case 1: return x.set(FORGET, 0);
            case 2: return x.read(6, 2);
            case 3: return x.read(9, 2);
            case 4: return x.read(14, 23);
            case 5: return x.change(6, 2, 3);
            case 6: return x.change(0, 3, 9999);
            case 7: return x.putBack(6, 2);
            case 8: return x.putBack(15, 3);
            case 9: return x.recall(2);
            case 10: return x.recall(3);
            case 11: return x.account();
            case 12: return x.carryOut();
            default: return x.restore(1);
        }
    }

    private static final int KINDS = 14;

    private static Told readyForAll() {
        Told x = used();
        x.save(1);
        x.change(12, 2, 4);
        x.change(6, 2, 5);
        Look.put(x, "w0:0=1;r15:15;c3");
        return x;
    }

    private static void asItWasBefore() {
        EdgesTest.sentence(22, "Undoes the latest change: everything except the pad, the slots and the history is as it was "
                + "before it.");
        for (int kind = 0; kind < KINDS; kind++) {
            Told x = readyForAll();
            String before = Look.state(x);
            check.due("change " + kind + " is no error", changeBy(kind, x) >= 0 ? 1 : 0, 1);
            check.due("change " + kind + " is different", Look.state(x).equals(before) ? 1 : 0, 0);
            check.due("undo() of change " + kind, x.undo(), LONGEST - 1);
            check.due("change " + kind + " undone", Look.state(x), before);
        }
        Told x = new Told();
        x.set(NAMES, 4);
        x.set(SIZE, 8);
        x.undo();
        check.due("SIZE as before", x.count(8), 4);
        check.due("NAMES stays", x.count(7), 4);
        x.undo();
        check.due("NAMES as before", x.count(7), 2);
    }

    private static void exceptThePad() {
        EdgesTest.sentence(22, "everything except the pad,");
        Told x = new Told();
        Look.put(x, "c1");
        x.read(0, 0);
        Look.put(x, ";c2;");
        x.undo();
        check.due("the pad stays", x.count(11), 6);
        check.due("as it was", x.fault(), 6);
        x.read(0, 0);
        x.wipe();
        x.undo();
        check.due("wiped, it stays empty", x.count(11), 0);
        Look.put(x, "r3:3");
        x.carryOut();
        x.undo();
        check.due("carried out, it stays empty", x.count(11), 0);
    }

    private static void exceptTheSlots() {
        EdgesTest.sentence(22, "the slots");
        Told x = new Told();
        x.read(0, 0);
        x.save(0);
        x.read(0, 1);
        x.save(1);
        x.read(0, 2);
        x.save(0);
        x.undo();
        x.undo();
        x.undo();
        check.due("nothing is read", x.count(0), 0);
        check.due("the second save() in slot 0 stays", x.restore(0), 6);
        check.due("what it holds", Look.shelf(x, 0), "0 1 2");
        check.due("slot 1 stays", x.restore(1), 4);
        check.due("what that holds", Look.shelf(x, 0), "0 1");
    }

    private static void exceptTheHistory() {
        EdgesTest.sentence(22, "and the history is as it was before it.");
        Told x = new Told();
        x.read(0, 0);
        x.read(0, 1);
        x.read(0, 2);
        check.due("undo()", x.undo(), 2);
        check.due("it goes on back", x.undo(), 1);
        check.due("one is left", Look.shelf(x, 0), "0");
        x.read(0, 5);
        check.due("another instead", x.count(12), 2);
        check.due("undo()", x.undo(), 1);
        check.due("back to the one", Look.shelf(x, 0), "0");
        check.due("and to none", x.undo(), 0);
        check.due("an empty shelf", Look.shelf(x, 0), "");
    }

    private static void eachChangeRecords() {
        EdgesTest.sentence(22, "each method that is a change, and returns no error, records the state before it (also if nothing "
                + "is different then);");
        for (int kind = 0; kind < KINDS; kind++) {
            Told x = readyForAll();
            x.set(ROOM, 2);
            x.undo();
            check.due("five", x.count(12), 5);
            check.due("change " + kind + " is no error", changeBy(kind, x) >= 0 ? 1 : 0, 1);
            check.due("recorded by change " + kind, x.count(12), 6);
        }
        Told x = new Told();
        x.set(ROOM, 3);
        check.due("set() to the same value", x.count(12), 1);
        x.account();
        check.due("account() of none", x.count(12), 2);
        x.save(0);
        x.restore(0);
        check.due("restore() of the same", x.count(12), 3);
        Look.put(x, "c0");
        x.carryOut();
        check.due("carryOut() of none", x.count(12), 4);
        String nothing = Look.state(new Told());
        check.due("nothing is different", Look.state(x), nothing);
        for (int left = 3; left >= 0; left--) {
            check.due("undo()", x.undo(), left);
            check.due("still the same", Look.state(x), nothing);
        }
    }

    private static void nothingElseRecords() {
        EdgesTest.sentence(22, "each method that is a change, and returns no error, records");
        Told x = new Told();
        x.read(0, 0);
        x.save(0);
        x.save(1);
        Look.put(x, "c0;");
        x.fault();
        x.wipe();
        x.best(0);
        x.accountWith(0, 1);
        x.cheapest(0);
        x.loudest(0);
        x.costOfReading(0, 0);
        x.costOfChange(0, 0, 0);
        x.ofNote(0, 0);
        x.ofReader(0, 0);
        x.onShelf(0, 0, 0);
        check.due("one change", x.count(12), 1);
        x.set(NAMES, 1);
        x.set(FORGET, 2);
        x.read(16, 0);
        x.change(0, 0, -1);
        x.putBack(0, 1);
        x.recall(1);
        x.carryOut();
        x.restore(2);
        check.due("errors are none", x.count(12), 1);
        x.undo();
        check.due("nor is undo()", x.count(12), 0);
        check.due("so there is no way back from it", x.undo(), NOT_POSSIBLE);
    }

    private static void atMostSix() {
        EdgesTest.sentence(22, "A history of at most 6 states is kept:");
        for (int changes = 0; changes <= 20; changes++) {
            Told x = new Told();
            List<String> states = new ArrayList<>();
            for (int i = 0; i < changes; i++) {
                states.add(Look.state(x));
                x.change(i % 16, i, i);
            }
            int kept = Math.min(LONGEST, changes);
            check.due("kept of " + changes, x.count(12), kept);
            for (int i = 1; i <= kept; i++) {
                check.due("undo " + i + " of " + changes, x.undo(), kept - i);
                check.due("back by " + i + " of " + changes, Look.state(x), states.get(changes - i));
            }
            check.refused("one more than there are of " + changes, x, Told::undo, NOT_POSSIBLE);
        }
    }

    /** Changes (+) and undos (-), and the states that have to come back; one undo too many is not possible. */
    private static void changesAndUndos(String steps) {
        Told x = new Told();
        List<String> states = new ArrayList<>();
        for (int i = 0; i < steps.length(); i++) {
            String name = steps.substring(0, i + 1);
            if (steps.charAt(i) == '+') {
                states.add(Look.state(x));
                if (states.size() > LONGEST) {
                    states.remove(0);
                }
                x.change(i % 16, i % 24, i);
            } else if (states.isEmpty()) {
                check.due(name, x.undo(), NOT_POSSIBLE);
            } else {
                check.due(name, x.undo(), states.size() - 1);
                check.due(name + ", the state", Look.state(x), states.remove(states.size() - 1));
            }
            check.due(name + ", how many", x.count(12), states.size());
        }
    }

    private static void dropsTheOldest() {
        EdgesTest.sentence(22, "when one more is recorded, the oldest one is dropped.");
        Told x = new Told();
        for (int note = 0; note < 7; note++) {
            x.read(note, note);
        }
        for (int left = 5; left >= 0; left--) {
            check.due("undo()", x.undo(), left);
        }
        check.due("the first of seven can't be undone", x.undo(), NOT_POSSIBLE);
        check.due("its copy", x.ofNote(0, 4), 1);
        check.due("that of the second is undone", x.ofNote(1, 4), 0);
        x = new Told();
        for (int note = 0; note < 6; note++) {
            x.read(note, note);
        }
        for (int left = 5; left >= 0; left--) {
            check.due("undo()", x.undo(), left);
        }
        check.due("the first of six can be undone", x.ofNote(0, 4), 0);
        changesAndUndos("++++++-+-+--++------+-");
        changesAndUndos("+-+-+-+-+-+-+-+--");
        changesAndUndos("++++++---+++++++++-------");
        changesAndUndos("+++++++++++++-----+++--------+++-");
    }

    private static void ordersRecordNothing() {
        EdgesTest.sentence(22, "An order of a text records nothing by itself.");
        Told x = new Told();
        x.read(1, 1);
        Look.put(x, "r0:0;w0:0=1;r2:2;b2:2;c1;r3:3;r4:4;r5:5");
        check.due("eight orders", x.carryOut(), 8);
        check.due("one more", x.count(12), 2);
        x.undo();
        check.due("all are undone", x.count(0), 2);
        check.due("the change before can be undone", x.undo(), 0);
        for (int i = 0; i < 6; i++) {
            x.read(9, i);
        }
        Look.put(x, "r0:0;r0:1;r0:2");
        x.carryOut();
        check.due("six", x.count(12), 6);
        for (int left = 5; left >= 0; left--) {
            check.due("undo()", x.undo(), left);
        }
        check.due("only the oldest was dropped", x.count(0), 2);
    }

    private static void undoAnswers() {
        EdgesTest.sentence(22, "Returns how many changes can be undone then;");
        for (int changes = 1; changes <= 8; changes++) {
            Told x = new Told();
            for (int i = 0; i < changes; i++) {
                x.account();
            }
            for (int left = Math.min(LONGEST, changes) - 1; left >= 0; left--) {
                check.due("undo() after " + changes, x.undo(), left);
                check.due("count(12)", x.count(12), left);
            }
        }
    }

    private static void undoRefused() {
        EdgesTest.sentence(22, "NOT_POSSIBLE if there is none.");
        Told x = new Told();
        check.refused("of a new object", x, Told::undo, NOT_POSSIBLE);
        Look.put(x, "r0:0");
        x.save(0);
        check.refused("put() and save() are no changes", x, Told::undo, NOT_POSSIBLE);
        x.read(0, 0);
        check.due("one", x.undo(), 0);
        check.refused("undone", x, Told::undo, NOT_POSSIBLE);
        x.read(1, 1);
        check.due("one more", x.undo(), 0);
    }

    private static void savesEverything() {
        EdgesTest.sentence(23, "Saves everything");
        for (int slot = 0; slot <= 1; slot++) {
            Told x = used();
            String saved = Look.state(x);
            x.save(slot);
            check.due("save() changes nothing of it", Look.state(x), saved);
            Look.put(x, "r15:15;w0:3=4;c0;w5:5=5");
            x.carryOut();
            x.set(ROOM, 8);
            x.set(FORGET, 0);
            for (int note = 0; note < 24; note++) {
                x.recall(note);
            }
            x.set(NAMES, 4);
            x.set(SIZE, 1);
            x.account();
            x.change(9, 9, 9);
            x.restore(slot);
            check.due("slot " + slot, Look.state(x), saved);
        }
    }

    private static void savesNoMore() {
        EdgesTest.sentence(23, "except the pad, the history and the slots");
        Told x = new Told();
        x.read(0, 0);
        Look.put(x, "c1;");
        x.save(0);
        Look.put(x, "c2");
        x.read(0, 1);
        x.save(1);
        x.read(0, 2);
        check.due("three changes", x.count(12), 3);
        x.restore(0);
        check.due("the pad stays", x.count(11), 5);
        check.due("and has no fault", x.fault(), NONE);
        check.due("one change more", x.count(12), 4);
        check.due("undo()", x.undo(), 3);
        check.due("the third change is there", Look.shelf(x, 0), "0 1 2");
        check.due("the other slot stays", x.restore(1), 4);
        check.due("as it was saved", Look.shelf(x, 0), "0 1");
        check.due("save() is no change", x.count(12), 4);
    }

    private static void overwrites() {
        EdgesTest.sentence(23, "in a slot, and overwrites what was saved there.");
        for (int slot = 0; slot <= 1; slot++) {
            Told x = new Told();
            x.change(3, 3, 3);
            x.save(slot);
            x.change(4, 4, 4);
            x.save(slot);
            String second = Look.state(x);
            x.recall(3);
            x.restore(slot);
            check.due("the second save() in " + slot, Look.state(x), second);
            x.undo();
            x.undo();
            x.undo();
            x.undo();
            x.save(slot);
            x.read(7, 7);
            check.due("overwritten by a new library", x.restore(slot), 0);
            check.due("all of it", Look.state(x), Look.state(new Told()));
        }
    }

    private static void twoSlots() {
        EdgesTest.sentence(23, "- `slot`: 0 or 1");
        Told x = new Told();
        x.read(0, 0);
        check.due("slot 0", x.save(0), 2);
        x.read(0, 1);
        check.due("slot 1", x.save(1), 4);
        x.read(0, 2);
        check.due("slot -1", x.save(-1), BAD_VALUE);
        check.due("slot 2", x.save(2), BAD_VALUE);
        check.due("from slot 0", x.restore(0), 2);
        check.due("what was in it", Look.shelf(x, 0), "0");
        check.due("from slot 1", x.restore(1), 4);
        check.due("what was in that", Look.shelf(x, 0), "0 1");
    }

    private static void saveAnswers() {
        EdgesTest.sentence(23, "Returns the messages so far;");
        Told x = new Told();
        check.due("none", x.save(1), 0);
        for (int note = 0; note < 5; note++) {
            x.read(note, 0);
            check.due("two a reading", x.save(note % 2), 2 * note + 2);
        }
        x.undo();
        check.due("undone", x.save(0), 8);
    }

    private static void saveRefused() {
        EdgesTest.sentence(23, "BAD_VALUE if there is no such slot.");
        Told x = readyForAll();
        for (int bad : NO_SLOTS) {
            check.refused("save(" + bad + ")", x, y -> y.save(bad), BAD_VALUE);
            check.refused("save(" + bad + ") of a new object", new Told(), y -> y.save(bad), BAD_VALUE);
        }
    }

    private static void restoresTheLast() {
        EdgesTest.sentence(24, "Restores what was saved last in a slot,");
        Told x = new Told();
        x.read(1, 1);
        x.save(0);
        x.read(2, 2);
        x.save(0);
        x.read(3, 3);
        x.save(1);
        x.read(4, 4);
        check.due("the last of slot 0", x.restore(0), 4);
        check.due("with the second reading", x.ofNote(2, 4), 4);
        check.due("without the third", x.ofNote(3, 4), 0);
        check.due("slot 1", x.restore(1), 6);
        check.due("without the fourth", x.ofNote(4, 4), 0);
    }

    private static void slotKeepsIt() {
        EdgesTest.sentence(24, "which keeps it.");
        for (int slot = 0; slot <= 1; slot++) {
            Told x = used();
            String saved = Look.state(x);
            x.save(slot);
            for (int i = 0; i < 3; i++) {
                x.change(i, 20, i);
                x.recall(20);
                x.account();
                x.restore(slot);
                check.due("restored " + i + " times before", Look.state(x), saved);
                x.change(i, 21, 9);
                x.undo();
            }
        }
    }

    private static void restoreIsAChange() {
        EdgesTest.sentence(24, "This is a change.");
        Told x = new Told();
        x.save(0);
        x.read(1, 1);
        String before = Look.state(x);
        x.restore(0);
        check.due("recorded", x.count(12), 2);
        check.due("as saved", x.count(0), 0);
        check.due("undo()", x.undo(), 1);
        check.due("as before the restore()", Look.state(x), before);
        for (int i = 0; i < 7; i++) {
            x.restore(0);
        }
        check.due("a full history", x.count(12), 6);
    }

    private static void restoreAnswers() {
        EdgesTest.sentence(24, "- `slot`: 0 or 1 Returns the messages so far then;");
        Told x = new Told();
        x.save(0);
        x.read(1, 1);
        x.save(1);
        x.read(2, 2);
        check.due("none", x.restore(0), 0);
        check.due("count(0)", x.count(0), 0);
        check.due("two", x.restore(1), 2);
        check.due("count(0)", x.count(0), 2);
        check.due("slot -1", x.restore(-1), BAD_VALUE);
        check.due("slot 2", x.restore(2), BAD_VALUE);
    }

    private static void restoreRefused() {
        EdgesTest.sentence(24, "BAD_VALUE if there is no such slot; NOT_POSSIBLE if nothing was saved in it.");
        Told x = readyForAll();
        for (int bad : NO_SLOTS) {
            check.refused("restore(" + bad + ")", x, y -> y.restore(bad), BAD_VALUE);
            check.refused("restore(" + bad + ") of a new object", new Told(), y -> y.restore(bad), BAD_VALUE);
        }
        check.refused("slot 0, only 1 was saved", x, y -> y.restore(0), NOT_POSSIBLE);
        Told other = new Told();
        check.refused("slot 0 of a new object", other, y -> y.restore(0), NOT_POSSIBLE);
        check.refused("slot 1 of a new object", other, y -> y.restore(1), NOT_POSSIBLE);
        other.save(0);
        check.refused("slot 1, only 0 was saved", other, y -> y.restore(1), NOT_POSSIBLE);
        check.due("a new library was saved in slot 0", other.restore(0), 0);
    }
}

import java.util.ArrayList;
import java.util.List;

/** Promises 22 to 24: undo, save, restore. */
public final class UndoTest {
    private static final Check check = new Check();

    public static void main(String[] args) {
        nothingToUndo();
        eachChange();
        everythingComesBack();
        atMostSix();
        padAndSlotsStay();
        errorsRecordNothing();
        saving();
        restoring();
        errors();
        check.end();
    }

    private static void nothingToUndo() {
        Told x = new Told();
        check.due("undo()", x.undo(), ShoutGroups.NOT_POSSIBLE);
        x.read(0, 0);
        check.due("undo() of one", x.undo(), 0);
        check.due("undo() again", x.undo(), ShoutGroups.NOT_POSSIBLE);
        check.due("as at first", Look.everything(x), Look.everything(new Told()));
    }

    private static void happen(Told x, int kind) {
        switch (kind) {
            case 0: x.set(ShoutGroups.FORGET, 1); break;
            case 1: x.read(1, 3); break;
            case 2: x.change(2, 3, 9); break;
            case 3: x.putBack(1, 4); break;
            case 4: x.recall(5); break;
            case 5: x.account(); break;
            case 6: Look.put(x, "r9:9;w9:8=7"); x.carryOut(); break;
            default: x.restore(0); break;
        }
    }

    private static void eachChange() {
        for (int kind = 0; kind <= 7; kind++) {
            Told x = new Told();
            x.read(0, 0);
            x.save(0);
            x.change(3, 3, 5);
            x.read(1, 4);
            x.read(1, 5);
            String before = Look.state(x);
            happen(x, kind);
            check.due("change " + kind + " is recorded", x.count(12), 5);
            check.due("change " + kind + " did something", Look.state(x).equals(before) ? 1 : 0, 0);
            check.due("undo() of " + kind, x.undo(), 4);
            check.due("state after undo() of " + kind, Look.state(x), before);
        }
    }

    /** Readings and changes that leave nothing as it was at first. */
    private static void keepBusy(Told x, int salt) {
        for (int i = 0; i < 90 + salt; i++) {
            int reader = (i * 7 + salt) % 16;
            int note = (i * 5 + salt * 3) % 11;
            if ((i + salt) % 5 == 4) {
                x.change(reader, note, 100 * salt + i);
            } else {
                x.read(reader, note);
            }
            x.read(reader, note);
        }
    }

    private static void everythingComesBack() {
        Told x = new Told();
        String atFirst = Look.state(x);
        x.save(0);
        x.set(ShoutGroups.NAMES, 1);
        x.set(ShoutGroups.SIZE, 3);
        x.set(ShoutGroups.ROOM, 4);
        x.set(ShoutGroups.FORGET, 1);
        keepBusy(x, 1);
        String busy = Look.state(x);
        x.save(1);
        check.due("restore(0)", x.restore(0), 0);
        check.due("as at first", Look.state(x), atFirst);
        keepBusy(x, 2);
        x.restore(1);
        check.due("restore(1)", Look.state(x), busy);
        x.restore(0);
        x.undo();
        check.due("undo() of restore(0)", Look.state(x), busy);
        x.account();
        x.undo();
        check.due("undo() of account()", Look.state(x), busy);
    }

    private static void atMostSix() {
        Told x = new Told();
        List<String> states = new ArrayList<>();
        for (int i = 0; i < 15; i++) {
            states.add(Look.state(x));
            x.change(i, i, 100 + i);
            check.due("history", x.count(12), Math.min(6, i + 1));
        }
        for (int i = 14; i >= 9; i--) {
            check.due("undo() of " + i, x.undo(), i - 9);
            check.due("state before " + i, Look.state(x), states.get(i));
        }
        check.due("no seventh", x.undo(), ShoutGroups.NOT_POSSIBLE);
        check.due("the state stays", Look.state(x), states.get(9));
        x.read(0, 20);
        check.due("recorded anew", x.undo(), 0);
        check.due("undone anew", Look.state(x), states.get(9));
    }

    private static void padAndSlotsStay() {
        Told x = new Told();
        x.read(0, 0);
        x.put('c');
        x.save(1);
        x.undo();
        check.due("the pad stays", x.count(11), 1);
        check.due("the slot stays", x.restore(1), 2);
        check.due("what was saved", x.ofReader(0, 0), 1);
        Look.put(x, "5");
        x.carryOut();
        x.undo();
        check.due("the pad stays empty", x.count(11), 0);
    }

    private static void errorsRecordNothing() {
        Told x = new Told();
        x.read(0, 0);
        x.set(9, 9);
        x.set(0, 1);
        x.read(-1, 0);
        x.change(0, 0, -1);
        x.putBack(1, 0);
        x.recall(1);
        x.carryOut();
        x.restore(0);
        x.restore(2);
        x.save(2);
        check.due("one change", x.count(12), 1);
        x.save(0);
        x.put('c');
        x.wipe();
        x.fault();
        x.best(0);
        x.loudest(0);
        check.due("no change", x.count(12), 1);
        x.account();
        x.account();
        x.restore(0);
        x.restore(0);
        check.due("also if nothing is different", x.count(12), 5);
    }

    private static void saving() {
        Told x = new Told();
        x.set(ShoutGroups.ROOM, 8);
        x.set(ShoutGroups.NAMES, 0);
        x.change(4, 4, 44);
        x.read(5, 5);
        check.due("save(0)", x.save(0), 4);
        String saved = Look.state(x);
        check.due("not a change", x.count(12), 4);
        x.recall(4);
        x.read(5, 6);
        check.due("save(1)", x.save(1), 8);
        String second = Look.state(x);
        x.account();
        check.due("restore(0)", x.restore(0), 4);
        check.due("state of slot 0", Look.state(x), saved);
        check.due("restore(1)", x.restore(1), 8);
        check.due("state of slot 1", Look.state(x), second);
        check.due("save(0) over it", x.save(0), 8);
        x.undo();
        check.due("undone to slot 0's old state", Look.state(x), saved);
        x.restore(0);
        check.due("slot 0 is overwritten", Look.state(x), second);
    }

    private static void restoring() {
        Told x = new Told();
        check.due("save(0) at first", x.save(0), 0);
        x.read(0, 0);
        x.put('r');
        check.due("restore(0)", x.restore(0), 0);
        check.due("the pad stays", x.count(11), 1);
        check.due("the history grows", x.count(12), 2);
        check.due("nothing was saved in the other", x.restore(1), ShoutGroups.NOT_POSSIBLE);
        x.read(3, 3);
        check.due("the slot keeps it", x.restore(0), 0);
        check.due("no copies", x.count(3), 0);
        check.due("undo()", x.undo(), 3);
        check.due("the copy is there again", x.ofReader(3, 0), 1);
        x.undo();
        x.undo();
        check.due("the first copy is there again", x.ofReader(0, 0), 1);
    }

    private static void errors() {
        Told x = new Told();
        for (int bad : new int[] {-1, 2, Integer.MIN_VALUE, Integer.MAX_VALUE}) {
            check.due("save(" + bad + ")", x.save(bad), ShoutGroups.BAD_VALUE);
            check.due("restore(" + bad + ")", x.restore(bad), ShoutGroups.BAD_VALUE);
        }
        check.due("restore(0)", x.restore(0), ShoutGroups.NOT_POSSIBLE);
        check.due("restore(1)", x.restore(1), ShoutGroups.NOT_POSSIBLE);
        check.due("history", x.count(12), 0);
    }
}

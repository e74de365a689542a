import java.util.ArrayList;
import java.util.List;
import java.util.function.ToIntFunction;

/** The terms' conventions: errors, their order, that they change nothing, and NONE. */
final class RefusedEdges {
    private static final int NO_SUCH = -1, BAD_VALUE = -2, BAD_TEXT = -3, TOO_MANY = -4, NOT_POSSIBLE = -5, NONE = -6;
    private static final int[] NO_READERS = {-1, 16, Integer.MIN_VALUE, Integer.MAX_VALUE};
    private static final int[] NO_NOTES = {-1, 24, Integer.MIN_VALUE, Integer.MAX_VALUE};
    private static final Check check = EdgesTest.CHECK;

    static void all() {
        errorCodes();
        inTheirOrder();
        changesNothing();
        noneIsNoError();
        heads();
    }

    private static void errorCodes() {
        EdgesTest.sentence(0, "CONVENTIONS. A method that fails returns one of the error codes NO_SUCH (-1), BAD_VALUE (-2), "
                + "BAD_TEXT (-3), TOO_MANY (-4) and NOT_POSSIBLE (-5);");
        Told x = new Told();
        check.due("read(16, 0)", x.read(16, 0), -1);
        check.due("change(0, 0, 10000)", x.change(0, 0, 10000), -2);
        check.due("carryOut() of an empty pad", x.carryOut(), -3);
        check.due("put() on a full pad", Look.put(x, "x".repeat(81)), -4);
        check.due("undo() of nothing", x.undo(), -5);
    }

    private static void inTheirOrder() {
        EdgesTest.sentence(0, "it names its errors in the order in which they are checked, and the first one that applies is "
                + "returned.");
        for (Told x : new Told[] {new Told(), full(), tight(), undone()}) {
            for (int bad : NO_READERS) {
                check.refused("change, no reader and no value", x, y -> y.change(bad, 0, -1), NO_SUCH);
                check.refused("change, no reader, note or value", x, y -> y.change(bad, bad, 10000), NO_SUCH);
                check.refused("putBack, no reader and so no copy", x, y -> y.putBack(bad, 9), NO_SUCH);
                check.refused("onShelf, no reader and no what", x, y -> y.onShelf(bad, 0, 3), NO_SUCH);
                check.refused("onShelf, no place and no what", x, y -> y.onShelf(0, 8, -1), NO_SUCH);
                check.refused("ofReader, no reader and no what", x, y -> y.ofReader(bad, 7), NO_SUCH);
                check.refused("costOfChange, no reader and no what", x, y -> y.costOfChange(bad, 0, 2), NO_SUCH);
            }
            for (int bad : NO_NOTES) {
                check.refused("change, no note and no value", x, y -> y.change(0, bad, 10000), NO_SUCH);
                check.refused("putBack, no note and so no copy", x, y -> y.putBack(0, bad), NO_SUCH);
                check.refused("recall, no note and so no card", x, y -> y.recall(bad), NO_SUCH);
                check.refused("ofNote, no note and no what", x, y -> y.ofNote(bad, 9), NO_SUCH);
                check.refused("costOfChange, no note and no what", x, y -> y.costOfChange(0, bad, -1), NO_SUCH);
            }
            check.refused("loudest, no what, and perhaps none", x, y -> y.loudest(2), BAD_VALUE);
            check.refused("restore, no slot, and so nothing saved", x, y -> y.restore(2), BAD_VALUE);
        }
        for (Told x : new Told[] {full(), tight()}) {
            check.refused("set, NAMES out of range and cards in use", x, y -> y.set(0, 5), BAD_VALUE);
            check.refused("set, NAMES below and cards in use", x, y -> y.set(0, -1), BAD_VALUE);
            check.refused("set, SIZE out of range and cards in use", x, y -> y.set(1, 9), BAD_VALUE);
            check.refused("set, SIZE 0 and cards in use", x, y -> y.set(1, 0), BAD_VALUE);
            check.refused("put, no character on a full pad", x, y -> y.put(0), BAD_VALUE);
            check.refused("put, a bad code on a full pad", x, y -> y.put(32), BAD_VALUE);
            check.refused("put, a gap on a full pad", x, y -> y.put(0x210021), BAD_VALUE);
        }
    }

    /** A full pad, a full history that has gone round, an account that has, both slots, cards of each kind. */
    private static Told full() {
        Told x = new Told();
        x.set(0, 1);
        for (int i = 0; i < 65; i++) {
            x.change(i % 5, i % 7, 100 + i);
        }
        x.save(0);
        x.read(9, 0);
        x.read(14, 0);
        x.save(1);
        x.read(13, 1);
        x.putBack(13, 1);
        x.change(15, 23, 9999);
        x.recall(2);
        Look.put(x, "w0:0=1;r15:23;b15:23;c0;r0:0;w15:15=9999;r16:0;r0:0;".repeat(2).substring(0, 79) + "x");
        return x;
    }

    /** More copies than there is room for, a full pad without a fault, a history that isn't full, one slot. */
    private static Told tight() {
        Told x = new Told();
        x.set(2, 8);
        for (int note = 0; note < 8; note++) {
            x.change(3, note, note);
            x.read(8, note + 8);
        }
        x.save(1);
        x.set(2, 1);
        x.set(3, 1);
        x.undo();
        x.undo();
        x.undo();
        x.set(2, 2);
        Look.put(x, "r0:0;".repeat(15) + "r0:10");
        return x;
    }

    /** All that can be undone is, the account was started anew, and the pad is empty. */
    private static Told undone() {
        Told x = new Told();
        x.read(3, 3);
        x.account();
        x.save(0);
        x.undo();
        x.undo();
        return x;
    }

    private final List<String> names = new ArrayList<>();
    private final List<ToIntFunction<Told>> calls = new ArrayList<>();
    private final List<Integer> errors = new ArrayList<>();

    private void add(String name, ToIntFunction<Told> call, int error) {
        names.add(name);
        calls.add(call);
        errors.add(error);
    }

    /** The calls that are refused whatever there is. */
    private void addAlwaysRefused() {
        int[] lowest = {0, 1, 1, 0};
        int[] highest = {4, 8, 8, 1};
        for (int i = 0; i < 4; i++) {
            int setting = i;
            add("set(" + i + ", below)", y -> y.set(setting, lowest[setting] - 1), BAD_VALUE);
            add("set(" + i + ", above)", y -> y.set(setting, highest[setting] + 1), BAD_VALUE);
        }
        add("set(-1, 1)", y -> y.set(-1, 1), BAD_VALUE);
        add("set(4, 1)", y -> y.set(4, 1), BAD_VALUE);
        for (int bad : NO_READERS) {
            add("read(" + bad + ", 0)", y -> y.read(bad, 0), NO_SUCH);
            add("change(" + bad + ", 0, 0)", y -> y.change(bad, 0, 0), NO_SUCH);
            add("putBack(" + bad + ", 0)", y -> y.putBack(bad, 0), NO_SUCH);
            add("onShelf(" + bad + ", 0, 0)", y -> y.onShelf(bad, 0, 0), NO_SUCH);
            add("ofReader(" + bad + ", 0)", y -> y.ofReader(bad, 0), NO_SUCH);
            add("costOfReading(" + bad + ", 0)", y -> y.costOfReading(bad, 0), NO_SUCH);
            add("costOfChange(" + bad + ", 0, 0)", y -> y.costOfChange(bad, 0, 0), NO_SUCH);
        }
        for (int bad : NO_NOTES) {
            add("read(0, " + bad + ")", y -> y.read(0, bad), NO_SUCH);
            add("change(0, " + bad + ", 0)", y -> y.change(0, bad, 0), NO_SUCH);
            add("putBack(0, " + bad + ")", y -> y.putBack(0, bad), NO_SUCH);
            add("recall(" + bad + ")", y -> y.recall(bad), NO_SUCH);
            add("ofNote(" + bad + ", 0)", y -> y.ofNote(bad, 0), NO_SUCH);
            add("costOfReading(0, " + bad + ")", y -> y.costOfReading(0, bad), NO_SUCH);
            add("costOfChange(0, " + bad + ", 0)", y -> y.costOfChange(0, bad, 0), NO_SUCH);
            add("cheapest(" + bad + ")", y -> y.cheapest(bad), NO_SUCH);
        }
        add("change(0, 0, -1)", y -> y.change(0, 0, -1), BAD_VALUE);
        add("change(0, 0, 10000)", y -> y.change(0, 0, 10000), BAD_VALUE);
        add("onShelf(0, -1, 0)", y -> y.onShelf(0, -1, 0), NO_SUCH);
        add("onShelf(0, 8, 0)", y -> y.onShelf(0, 8, 0), NO_SUCH);
        add("loudest(-1)", y -> y.loudest(-1), BAD_VALUE);
        add("loudest(2)", y -> y.loudest(2), BAD_VALUE);
        add("put(0)", y -> y.put(0), BAD_VALUE);
        add("put(32)", y -> y.put(32), BAD_VALUE);
        add("put(127)", y -> y.put(127), BAD_VALUE);
        add("put(-1)", y -> y.put(-1), BAD_VALUE);
        for (int bad : new int[] {-1, 2}) {
            add("save(" + bad + ")", y -> y.save(bad), BAD_VALUE);
            add("restore(" + bad + ")", y -> y.restore(bad), BAD_VALUE);
        }
        addBadWhats();
    }

    private void addBadWhats() {
        add("ofNote(0, -1)", y -> y.ofNote(0, -1), BAD_VALUE);
        add("ofNote(0, 9)", y -> y.ofNote(0, 9), BAD_VALUE);
        add("ofReader(0, -1)", y -> y.ofReader(0, -1), BAD_VALUE);
        add("ofReader(0, 7)", y -> y.ofReader(0, 7), BAD_VALUE);
        add("count(-1)", y -> y.count(-1), BAD_VALUE);
        add("count(13)", y -> y.count(13), BAD_VALUE);
        add("costOfChange(0, 0, -1)", y -> y.costOfChange(0, 0, -1), BAD_VALUE);
        add("costOfChange(0, 0, 2)", y -> y.costOfChange(0, 0, 2), BAD_VALUE);
        add("accountWith(-1, 4)", y -> y.accountWith(-1, 4), BAD_VALUE);
        add("accountWith(5, 4)", y -> y.accountWith(5, 4), BAD_VALUE);
        add("accountWith(2, 0)", y -> y.accountWith(2, 0), BAD_VALUE);
        add("accountWith(2, 9)", y -> y.accountWith(2, 9), BAD_VALUE);
        add("best(-1)", y -> y.best(-1), BAD_VALUE);
        add("best(3)", y -> y.best(3), BAD_VALUE);
    }

    private void changeNothingOf(String which, Told x) {
        for (int i = 0; i < calls.size(); i++) {
            check.refused(which + ": " + names.get(i), x, calls.get(i), errors.get(i));
        }
    }

    private static RefusedEdges always() {
        RefusedEdges some = new RefusedEdges();
        some.addAlwaysRefused();
        return some;
    }

    private static void changesNothing() {
        EdgesTest.sentence(0, "A call that returns an error changes nothing.");
        RefusedEdges ofNew = always();
        ofNew.add("putBack(0, 0)", y -> y.putBack(0, 0), NOT_POSSIBLE);
        ofNew.add("recall(0)", y -> y.recall(0), NOT_POSSIBLE);
        ofNew.add("onShelf(0, 0, 0)", y -> y.onShelf(0, 0, 0), NO_SUCH);
        ofNew.add("carryOut()", Told::carryOut, BAD_TEXT);
        ofNew.add("undo()", Told::undo, NOT_POSSIBLE);
        ofNew.add("restore(0)", y -> y.restore(0), NOT_POSSIBLE);
        ofNew.add("restore(1)", y -> y.restore(1), NOT_POSSIBLE);
        ofNew.changeNothingOf("a new object", new Told());
        RefusedEdges ofFull = always();
        ofFull.add("set(NAMES, 4)", y -> y.set(0, 4), NOT_POSSIBLE);
        ofFull.add("set(SIZE, 1)", y -> y.set(1, 1), NOT_POSSIBLE);
        ofFull.add("putBack(13, 1)", y -> y.putBack(13, 1), NOT_POSSIBLE);
        ofFull.add("recall(2)", y -> y.recall(2), NOT_POSSIBLE);
        ofFull.add("put('1')", y -> y.put('1'), TOO_MANY);
        ofFull.add("carryOut()", Told::carryOut, BAD_TEXT);
        ofFull.changeNothingOf("a full one", full());
        RefusedEdges ofTight = always();
        ofTight.add("set(NAMES, 2)", y -> y.set(0, 2), NOT_POSSIBLE);
        ofTight.add("set(SIZE, 4)", y -> y.set(1, 4), NOT_POSSIBLE);
        ofTight.add("putBack(3, 8)", y -> y.putBack(3, 8), NOT_POSSIBLE);
        ofTight.add("recall(23)", y -> y.recall(23), NOT_POSSIBLE);
        ofTight.add("onShelf(8, 7, 0)", y -> y.onShelf(8, 7, 0), NO_SUCH);
        ofTight.add("put('1')", y -> y.put('1'), TOO_MANY);
        ofTight.add("put() of eight", y -> y.put(0x2121212121212121L), TOO_MANY);
        ofTight.add("restore(0)", y -> y.restore(0), NOT_POSSIBLE);
        ofTight.changeNothingOf("one with too many copies", tight());
        RefusedEdges ofUndone = always();
        ofUndone.add("undo()", Told::undo, NOT_POSSIBLE);
        ofUndone.add("carryOut()", Told::carryOut, BAD_TEXT);
        ofUndone.add("restore(1)", y -> y.restore(1), NOT_POSSIBLE);
        ofUndone.add("putBack(3, 3)", y -> y.putBack(3, 3), NOT_POSSIBLE);
        ofUndone.add("recall(3)", y -> y.recall(3), NOT_POSSIBLE);
        ofUndone.changeNothingOf("one that is undone", undone());
    }

    private static void noneIsNoError() {
        EdgesTest.sentence(0, "NONE (-6) is not an error; it is returned only if no error applies.");
        Told x = new Told();
        check.due("no note is loudest", x.loudest(0), NONE);
        check.due("nor has it a number", x.loudest(1), NONE);
        check.due("an error applies", x.loudest(2), BAD_VALUE);
        check.due("an error applies", x.loudest(-1), BAD_VALUE);
        x.put('c' << 8 | '1');
        check.due("no fault", x.fault(), NONE);
        check.due("a text without one is carried out", x.carryOut(), 0);
        check.due("a fault", x.fault(), 0);
    }

    /** Where the interface only heads what follows, the calls that it names are there. */
    private static void heads() {
        EdgesTest.sentence(0, "Ahead of the calls `set`, `read`, `change`, `putBack`, `recall` the interface says: ---- what "
                + "happens.");
        Told x = new Told();
        check.due("set", x.set(2, 1), 3);
        check.due("read", x.read(0, 0), 0);
        check.due("change", x.change(0, 0, 1), 2);
        check.due("putBack", x.putBack(0, 0), 1);
        x.read(0, 0);
        check.due("recall", x.recall(0), 1);
        check.due("each is recorded", x.count(12), 6);
        EdgesTest.sentence(0, "Ahead of the calls `account` the interface says: ---- the account.");
        check.due("account", x.account(), 3);
        EdgesTest.sentence(0, "Ahead of the calls `put`, `wipe`, `fault`, `carryOut` the interface says: ---- texts.");
        check.due("put", x.put('c'), 1);
        check.due("fault", x.fault(), 1);
        check.due("wipe", x.wipe(), 1);
        check.due("carryOut", x.carryOut(), BAD_TEXT);
        EdgesTest.sentence(0, "Ahead of the calls `undo`, `save`, `restore` the interface says: ---- undo, saving.");
        check.due("undo", x.undo(), 5);
        check.due("save", x.save(1), 2 + 2 + 1 + 2 + 2);
        check.due("restore", x.restore(1), 9);
    }
}

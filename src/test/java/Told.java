import java.util.ArrayList;
import java.util.List;
import java.util.function.ToIntFunction;

/**
 * A ShoutGroups that is called at most 512 times, since nothing is promised after that, and that can be had again as it
 * is now: so a test can look at everything, and at what undo() or restore() would bring, without spending its calls.
 */
final class Told {
    static final int CALLS = 512;

    private final ShoutGroups x = new ShoutGroups();
    private final List<ToIntFunction<ShoutGroups>> calls = new ArrayList<>();

    private int tell(ToIntFunction<ShoutGroups> call) {
        if (calls.size() >= CALLS) {
            throw new IllegalStateException("a test calls one object more than " + CALLS + " times");
        }
        calls.add(call);
        return call.applyAsInt(x);
    }

    /** Another object, after the same calls. */
    Told again() {
        Told other = new Told();
        for (ToIntFunction<ShoutGroups> call : calls) {
            other.tell(call);
        }
        return other;
    }

    int callsLeft() {
        return CALLS - calls.size();
    }

    int set(int setting, int value) {
        return tell(x -> x.set(setting, value));
    }

    int read(int reader, int note) {
        return tell(x -> x.read(reader, note));
    }

    int change(int reader, int note, int value) {
        return tell(x -> x.change(reader, note, value));
    }

    int putBack(int reader, int note) {
        return tell(x -> x.putBack(reader, note));
    }

    int recall(int note) {
        return tell(x -> x.recall(note));
    }

    int ofNote(int note, int what) {
        return tell(x -> x.ofNote(note, what));
    }

    int onShelf(int reader, int place, int what) {
        return tell(x -> x.onShelf(reader, place, what));
    }

    int ofReader(int reader, int what) {
        return tell(x -> x.ofReader(reader, what));
    }

    int count(int what) {
        return tell(x -> x.count(what));
    }

    int costOfReading(int reader, int note) {
        return tell(x -> x.costOfReading(reader, note));
    }

    int costOfChange(int reader, int note, int what) {
        return tell(x -> x.costOfChange(reader, note, what));
    }

    int cheapest(int note) {
        return tell(x -> x.cheapest(note));
    }

    int loudest(int what) {
        return tell(x -> x.loudest(what));
    }

    int accountWith(int names, int size) {
        return tell(x -> x.accountWith(names, size));
    }

    int best(int what) {
        return tell(x -> x.best(what));
    }

    int account() {
        return tell(x -> x.account());
    }

    int put(long characters) {
        return tell(x -> x.put(characters));
    }

    int wipe() {
        return tell(x -> x.wipe());
    }

    int fault() {
        return tell(x -> x.fault());
    }

    int carryOut() {
        return tell(x -> x.carryOut());
    }

    int undo() {
        return tell(x -> x.undo());
    }

    int save(int slot) {
        return tell(x -> x.save(slot));
    }

    int restore(int slot) {
        return tell(x -> x.restore(slot));
    }
}

import java.util.ArrayDeque;
import java.util.ArrayList;
import java.util.Collections;
import java.util.Deque;
import java.util.List;
import java.util.Set;
import java.util.TreeSet;

/** The document once more, as literally as it can be said: everything is copied, and what-ifs are tried out. */
final class Model {
    private static final int NO_SUCH = -1, BAD_VALUE = -2, BAD_TEXT = -3, TOO_MANY = -4, NOT_POSSIBLE = -5, NONE = -6;

    private static final class Copy {
        int note;
        int value;
        boolean changed;
    }

    private static final class State {
        int names = 2, size = 4, room = 3, forget = 0;
        int[] values = new int[24];
        List<List<Copy>> shelves = new ArrayList<>();
        List<Set<Integer>> readersNamed = new ArrayList<>();
        List<Set<Integer>> groupsNamed = new ArrayList<>();
        int[] owner = new int[24];
        int messages, wasted, shouts;
        int[] calledBackOf = new int[24], shoutsFor = new int[24];
        int[] uses = new int[16], quiet = new int[16], calledBackFrom = new int[16], wastedOn = new int[16];
        List<int[]> account = new ArrayList<>();

        State() {
            for (int i = 0; i < 16; i++) {
                shelves.add(new ArrayList<>());
            }
            for (int i = 0; i < 24; i++) {
                readersNamed.add(new TreeSet<>());
                groupsNamed.add(new TreeSet<>());
                owner[i] = -1;
            }
        }

        State copy() {
            State s = new State();
            s.names = names;
            s.size = size;
            s.room = room;
            s.forget = forget;
            s.values = values.clone();
            for (int i = 0; i < 16; i++) {
                for (Copy c : shelves.get(i)) {
                    Copy d = new Copy();
                    d.note = c.note;
                    d.value = c.value;
                    d.changed = c.changed;
                    s.shelves.get(i).add(d);
                }
            }
            for (int i = 0; i < 24; i++) {
                s.readersNamed.get(i).addAll(readersNamed.get(i));
                s.groupsNamed.get(i).addAll(groupsNamed.get(i));
            }
            s.owner = owner.clone();
            s.messages = messages;
            s.wasted = wasted;
            s.shouts = shouts;
            s.calledBackOf = calledBackOf.clone();
            s.shoutsFor = shoutsFor.clone();
            s.uses = uses.clone();
            s.quiet = quiet.clone();
            s.calledBackFrom = calledBackFrom.clone();
            s.wastedOn = wastedOn.clone();
            s.account.addAll(account);
            return s;
        }

        int kind(int note) {
            if (owner[note] >= 0) {
                return 3;
            }
            return !groupsNamed.get(note).isEmpty() ? 2 : !readersNamed.get(note).isEmpty() ? 1 : 0;
        }

        void blank(int note) {
            owner[note] = -1;
            groupsNamed.get(note).clear();
            readersNamed.get(note).clear();
        }

        Set<Integer> called(int note) {
            Set<Integer> called = new TreeSet<>(readersNamed.get(note));
            if (owner[note] >= 0) {
                called.add(owner[note]);
            }
            for (int group : groupsNamed.get(note)) {
                for (int reader = group * size; reader < group * size + size && reader < 16; reader++) {
                    called.add(reader);
                }
            }
            return called;
        }

        Copy copyOf(int reader, int note) {
            for (Copy c : shelves.get(reader)) {
                if (c.note == note) {
                    return c;
                }
            }
            return null;
        }

        void write(int note, int reader) {
            if (!groupsNamed.get(note).isEmpty()) {
                groupsNamed.get(note).add(reader / size);
            } else if (!readersNamed.get(note).contains(reader)) {
                readersNamed.get(note).add(reader);
                if (readersNamed.get(note).size() > names) {
                    for (int named : readersNamed.get(note)) {
                        groupsNamed.get(note).add(named / size);
                    }
                    readersNamed.get(note).clear();
                }
            }
        }

        boolean callBackFrom(int reader, int note) {
            messages++;
            Copy c = copyOf(reader, note);
            if (c == null) {
                wasted++;
                wastedOn[reader]++;
                return false;
            }
            if (c.changed) {
                values[note] = c.value;
            }
            shelves.get(reader).remove(c);
            messages++;
            calledBackOf[note]++;
            calledBackFrom[reader]++;
            return true;
        }

        int callBackBut(int note, int but) {
            int taken = 0;
            boolean shouting = kind(note) == 2;
            for (int reader : called(note)) {
                if (reader != but) {
                    if (shouting) {
                        shouts++;
                        shoutsFor[note]++;
                    }
                    taken += callBackFrom(reader, note) ? 1 : 0;
                }
            }
            return taken;
        }

        void putBack(int reader, Copy c) {
            shelves.get(reader).remove(c);
            if (c.changed) {
                values[c.note] = c.value;
            }
            if (c.changed || forget == 1) {
                messages++;
                if (owner[c.note] >= 0) {
                    blank(c.note);
                }
                readersNamed.get(c.note).remove(reader);
            }
        }

        void makeRoom(int reader) {
            while (shelves.get(reader).size() >= room) {
                putBack(reader, shelves.get(reader).get(0));
            }
        }

        Copy bring(int reader, int note) {
            makeRoom(reader);
            Copy c = new Copy();
            c.note = note;
            c.value = values[note];
            shelves.get(reader).add(c);
            messages += 2;
            return c;
        }

        void use(int reader, Copy c) {
            shelves.get(reader).remove(c);
            shelves.get(reader).add(c);
        }

        int read(int reader, int note) {
            uses[reader]++;
            Copy c = copyOf(reader, note);
            if (c != null) {
                quiet[reader]++;
                use(reader, c);
                return c.value;
            }
            if (owner[note] >= 0) {
                callBackFrom(owner[note], note);
                blank(note);
            }
            int value = bring(reader, note).value;
            write(note, reader);
            return value;
        }

        int change(int reader, int note, int value) {
            int before = messages;
            uses[reader]++;
            Copy c = copyOf(reader, note);
            if (owner[note] == reader) {
                quiet[reader]++;
                use(reader, c);
            } else {
                callBackBut(note, reader);
                if (c == null) {
                    c = bring(reader, note);
                } else {
                    use(reader, c);
                    messages += 2;
                }
                blank(note);
                owner[note] = reader;
            }
            c.value = value;
            c.changed = true;
            return messages - before;
        }

        void enter(boolean change, int reader, int note) {
            account.add(new int[] {change ? 1 : 0, reader, note});
            if (account.size() > 60) {
                account.remove(0);
            }
        }
    }

    private State now = new State();
    private final State[] slots = new State[2];
    private final Deque<State> history = new ArrayDeque<>();
    private String pad = "";

    private void record() {
        history.addLast(now.copy());
        if (history.size() > 6) {
            history.removeFirst();
        }
    }

    private static boolean in(int value, int from, int to) {
        return value >= from && value <= to;
    }

    int set(int setting, int value) {
        int[] from = {0, 1, 1, 0};
        int[] to = {4, 8, 8, 1};
        if (!in(setting, 0, 3) || !in(value, from[setting], to[setting])) {
            return BAD_VALUE;
        }
        if (setting < 2 && count(5) > 0) {
            return NOT_POSSIBLE;
        }
        record();
        int previous = count(7 + setting);
        switch (setting) {
            case 0: now.names = value; break;
            case 1: now.size = value; break;
            case 2: now.room = value; break;
            default: now.forget = value; break;
        }
        return previous;
    }

    private int happen(char kind, int reader, int note, int value, boolean recorded) {
        if (!in(reader, 0, 15) || !in(note, 0, 23)) {
            return NO_SUCH;
        }
        if (kind == 'w' && !in(value, 0, 9999)) {
            return BAD_VALUE;
        }
        if (kind == 'b' && now.copyOf(reader, note) == null || kind == 'c' && now.kind(note) == 0) {
            return NOT_POSSIBLE;
        }
        if (recorded) {
            record();
        }
        if (kind == 'r') {
            now.enter(false, reader, note);
            return now.read(reader, note);
        }
        if (kind == 'w') {
            now.enter(true, reader, note);
            return now.change(reader, note, value);
        }
        if (kind == 'b') {
            Copy c = now.copyOf(reader, note);
            now.putBack(reader, c);
            return c.changed ? 1 : 0;
        }
        int taken = now.callBackBut(note, -1);
        now.blank(note);
        return taken;
    }

    int read(int reader, int note) {
        return happen('r', reader, note, 0, true);
    }

    int change(int reader, int note, int value) {
        return happen('w', reader, note, value, true);
    }

    int putBack(int reader, int note) {
        return happen('b', reader, note, 0, true);
    }

    int recall(int note) {
        return happen('c', 0, note, 0, true);
    }

    private static int mask(Iterable<Integer> members) {
        int mask = 0;
        for (int member : members) {
            mask |= 1 << member;
        }
        return mask;
    }

    private Set<Integer> holders(int note) {
        Set<Integer> holders = new TreeSet<>();
        for (int reader = 0; reader < 16; reader++) {
            if (now.copyOf(reader, note) != null) {
                holders.add(reader);
            }
        }
        return holders;
    }

    int ofNote(int note, int what) {
        if (!in(note, 0, 23)) {
            return NO_SUCH;
        }
        Set<Integer> silent = now.called(note);
        silent.removeAll(holders(note));
        switch (what) {
            case 0: return now.values[note];
            case 1: return now.kind(note);
            case 2: return now.kind(note) == 3 ? 1 << now.owner[note]
                    : mask(now.readersNamed.get(note)) | mask(now.groupsNamed.get(note));
            case 3: return mask(now.called(note));
            case 4: return mask(holders(note));
            case 5: return silent.size();
            case 6:
                List<Integer> read = new ArrayList<>();
                for (int reader = 0; reader < 16; reader++) {
                    read.add(now.copy().read(reader, note));
                }
                if (!Collections.min(read).equals(Collections.max(read))) {
                    throw new IllegalStateException("readers would read different values");
                }
                return read.get(0);
            case 7: return now.calledBackOf[note];
            case 8: return now.shoutsFor[note];
            default: return BAD_VALUE;
        }
    }

    int onShelf(int reader, int place, int what) {
        if (!in(reader, 0, 15) || !in(place, 0, now.shelves.get(reader).size() - 1)) {
            return NO_SUCH;
        }
        Copy c = now.shelves.get(reader).get(place);
        return what == 0 ? c.note : what == 1 ? c.value : what == 2 ? c.changed ? 1 : 0 : BAD_VALUE;
    }

    int ofReader(int reader, int what) {
        if (!in(reader, 0, 15)) {
            return NO_SUCH;
        }
        switch (what) {
            case 0: return now.shelves.get(reader).size();
            case 1: return reader / now.size;
            case 2: return now.uses[reader];
            case 3: return now.quiet[reader];
            case 4: return now.calledBackFrom[reader];
            case 5: return now.wastedOn[reader];
            case 6:
                List<Integer> notes = new ArrayList<>();
                for (int note = 0; note < 24; note++) {
                    if (now.called(note).contains(reader)) {
                        notes.add(note);
                    }
                }
                return mask(notes);
            default: return BAD_VALUE;
        }
    }

    int count(int what) {
        int copies = 0;
        int changed = 0;
        for (List<Copy> shelf : now.shelves) {
            for (Copy c : shelf) {
                copies++;
                changed += c.changed ? 1 : 0;
            }
        }
        int inUse = 0;
        int grouped = 0;
        for (int note = 0; note < 24; note++) {
            inUse += now.kind(note) != 0 ? 1 : 0;
            grouped += now.kind(note) == 2 ? 1 : 0;
        }
        int[] all = {now.messages, now.wasted, now.shouts, copies, changed, inUse, grouped, now.names, now.size, now.room,
            now.forget, pad.length(), history.size()};
        return in(what, 0, 12) ? all[what] : BAD_VALUE;
    }

    int costOfReading(int reader, int note) {
        if (!in(reader, 0, 15) || !in(note, 0, 23)) {
            return NO_SUCH;
        }
        State trial = now.copy();
        trial.read(reader, note);
        return trial.messages - now.messages;
    }

    int costOfChange(int reader, int note, int what) {
        if (!in(reader, 0, 15) || !in(note, 0, 23)) {
            return NO_SUCH;
        }
        if (!in(what, 0, 1)) {
            return BAD_VALUE;
        }
        State trial = now.copy();
        trial.change(reader, note, 1);
        return what == 0 ? trial.messages - now.messages : trial.wasted - now.wasted;
    }

    int cheapest(int note) {
        if (!in(note, 0, 23)) {
            return NO_SUCH;
        }
        int best = 0;
        for (int reader = 15; reader >= 0; reader--) {
            if (costOfChange(reader, note, 0) <= costOfChange(best, note, 0)) {
                best = reader;
            }
        }
        return best;
    }

    int loudest(int what) {
        if (!in(what, 0, 1)) {
            return BAD_VALUE;
        }
        int best = NONE;
        int most = 0;
        for (int note = 0; note < 24; note++) {
            int least = Integer.MAX_VALUE;
            for (int reader = 0; reader < 16; reader++) {
                least = Math.min(least, costOfChange(reader, note, 1));
            }
            if (least > most) {
                most = least;
                best = note;
            }
        }
        return what == 0 || best == NONE ? best : most;
    }

    int accountWith(int names, int size) {
        if (!in(names, 0, 4) || !in(size, 1, 8)) {
            return BAD_VALUE;
        }
        State trial = new State();
        trial.names = names;
        trial.size = size;
        trial.room = now.room;
        trial.forget = now.forget;
        for (int[] entry : now.account) {
            if (entry[0] == 1) {
                trial.change(entry[1], entry[2], 7);
            } else {
                trial.read(entry[1], entry[2]);
            }
        }
        return trial.messages;
    }

    int best(int what) {
        if (!in(what, 0, 2)) {
            return BAD_VALUE;
        }
        int[] best = {0, 0, Integer.MAX_VALUE};
        for (int names = 0; names <= 4; names++) {
            for (int size = 1; size <= 8; size++) {
                int messages = accountWith(names, size);
                if (messages < best[2]) {
                    best = new int[] {names, size, messages};
                }
            }
        }
        return best[what];
    }

    int account() {
        record();
        int had = now.account.size();
        now.account.clear();
        return had;
    }

    int put(long characters) {
        StringBuilder text = new StringBuilder();
        long rest = characters;
        while (rest != 0) {
            text.append((char) (rest & 255));
            rest >>>= 8;
        }
        String added = text.reverse().toString();
        if (!added.matches("[!-~]{1,8}")) {
            return BAD_VALUE;
        }
        if (pad.length() + added.length() > 80) {
            return TOO_MANY;
        }
        pad += added;
        return pad.length();
    }

    int wipe() {
        int had = pad.length();
        pad = "";
        return had;
    }

    private static final String NUMBER = "(?:0|[1-9][0-9]{0,3})";
    private static final String ORDER = "(?:[rb]" + NUMBER + ":" + NUMBER + "|w" + NUMBER + ":" + NUMBER + "=" + NUMBER
            + "|c" + NUMBER + ")";
    private static final String TEXT = ORDER + "(?:;" + ORDER + ")*";
    // Whatever may follow the start of a text, one of these makes it whole.
    private static final String[] ENDINGS = {"", "0", ":0", "0:0", "=0", "0=0", ":0=0", "0:0=0", "c0"};

    private static boolean isStartOfText(String start) {
        for (String ending : ENDINGS) {
            if ((start + ending).matches(TEXT)) {
                return true;
            }
        }
        return false;
    }

    int fault() {
        if (pad.matches(TEXT)) {
            return NONE;
        }
        for (int length = 1; length <= pad.length(); length++) {
            if (!isStartOfText(pad.substring(0, length))) {
                return length - 1;
            }
        }
        return pad.length();
    }

    int carryOut() {
        if (!pad.matches(TEXT)) {
            return BAD_TEXT;
        }
        record();
        int done = 0;
        for (String order : pad.split(";")) {
            String[] numbers = order.substring(1).split("[:=]");
            char kind = order.charAt(0);
            int reader = kind == 'c' ? 0 : Integer.parseInt(numbers[0]);
            int note = Integer.parseInt(numbers[kind == 'c' ? 0 : 1]);
            int value = kind == 'w' ? Integer.parseInt(numbers[2]) : 0;
            if (happen(kind, reader, note, value, false) < 0) {
                break;
            }
            done++;
        }
        pad = "";
        return done;
    }

    int undo() {
        if (history.isEmpty()) {
            return NOT_POSSIBLE;
        }
        now = history.removeLast();
        return history.size();
    }

    int save(int slot) {
        if (!in(slot, 0, 1)) {
            return BAD_VALUE;
        }
        slots[slot] = now.copy();
        return now.messages;
    }

    int restore(int slot) {
        if (!in(slot, 0, 1)) {
            return BAD_VALUE;
        }
        if (slots[slot] == null) {
            return NOT_POSSIBLE;
        }
        record();
        now = slots[slot].copy();
        return now.messages;
    }
}

import java.util.Arrays;

/** A library that lends copies of its notes to readers' shelves and calls copies back before a note is changed. */
public final class ShoutGroups {
    public static final int NO_SUCH = -1, BAD_VALUE = -2, BAD_TEXT = -3, TOO_MANY = -4, NOT_POSSIBLE = -5, NONE = -6;
    public static final int NAMES = 0, SIZE = 1, ROOM = 2, FORGET = 3;
    public static final int BLANK = 0, NAMED = 1, GROUPED = 2, OWNED = 3;

    private static final int NOTES = 24, READERS = 16, TOP_VALUE = 9999, DIGITS = 4;
    private static final int SHELF_LENGTH = 8, ACCOUNT_LENGTH = 60, PAD_LENGTH = 80, HISTORY_LENGTH = 6, SLOTS = 2;
    private static final int[] LOWEST = {0, 1, 1, 0};
    private static final int[] HIGHEST = {4, 8, 8, 1};
    private static final int[] AT_FIRST = {2, 4, 3, 0};

    private static final int READING = 0, CHANGING = 1, PUTTING_BACK = 2, RECALLING = 3;
    private static final int MESSAGES = 0, WASTED = 1, SHOUTS = 2, TOTALS = 3;
    private static final int NOBODY = -1, NOWHERE = -1, NO_ORDER = -1, FINE = 0;

    private final Library library = new Library();
    private final Library trial = new Library();
    private final History history = new History();
    private final Library[] slots = new Library[SLOTS];
    private final Orders orders = new Orders();
    // Taken from the orders, not given to them: nothing of an object that is still being made is handed out.
    private final Pad pad = orders.pad;

    public ShoutGroups() {
        // An empty slot is null.
    }

    // ---- what happens

    public int set(int setting, int value) {
        if (!isValueOf(setting, value)) {
            return BAD_VALUE;
        }
        if ((setting == NAMES || setting == SIZE) && library.cards.howManyInUse() > 0) {
            return NOT_POSSIBLE;
        }
        history.keep(library);
        int previous = library.settings.at(setting);
        library.settings.write(setting, value);
        return previous;
    }

    public int read(int reader, int note) {
        return happen(READING, reader, note, 0, true);
    }

    public int change(int reader, int note, int value) {
        return happen(CHANGING, reader, note, value, true);
    }

    public int putBack(int reader, int note) {
        return happen(PUTTING_BACK, reader, note, 0, true);
    }

    public int recall(int note) {
        return happen(RECALLING, 0, note, 0, true);
    }

    /** An order of a text doesn't happen by itself: the text keeps one state for all of them. */
    private int happen(int kind, int reader, int note, int value, boolean isByItself) {
        int error = library.errorOf(kind, reader, note, value);
        if (error != FINE) {
            return error;
        }
        if (isByItself) {
            history.keep(library);
        }
        switch (kind) {
            case READING:
                library.account.append(kind, reader, note);
                return library.lend(reader, note);
            case CHANGING:
                library.account.append(kind, reader, note);
                return library.rewrite(reader, note, value);
            case PUTTING_BACK:
                return library.giveBack(reader, library.shelves.placeOf(reader, note));
            default:
                return library.callIn(note);
        }
    }

    // ---- what there is

    public int ofNote(int note, int what) {
        if (!isNote(note)) {
            return NO_SUCH;
        }
        int called = library.called(note);
        int holders = library.shelves.holders.at(note);
        switch (what) {
            case 0: return library.values.at(note);
            case 1: return library.cards.kinds.at(note);
            case 2: return library.cards.names.at(note);
            case 3: return called;
            case 4: return holders;
            case 5: return Integer.bitCount(called & ~holders);
            case 6: return library.valueToRead(note);
            case 7: return library.noteCalledBack.at(note);
            case 8: return library.noteShouts.at(note);
            default: return BAD_VALUE;
        }
    }

    public int onShelf(int reader, int place, int what) {
        if (!isReader(reader) || place < 0 || place >= library.shelves.lengths.at(reader)) {
            return NO_SUCH;
        }
        switch (what) {
            case 0: return library.shelves.noteAt(reader, place);
            case 1: return library.shelves.valueAt(reader, place);
            case 2: return library.shelves.isChangedAt(reader, place) ? 1 : 0;
            default: return BAD_VALUE;
        }
    }

    public int ofReader(int reader, int what) {
        if (!isReader(reader)) {
            return NO_SUCH;
        }
        switch (what) {
            case 0: return library.shelves.lengths.at(reader);
            case 1: return groupOf(reader, library.settings.at(SIZE));
            case 2: return library.readerUses.at(reader);
            case 3: return library.readerQuietUses.at(reader);
            case 4: return library.readerCalledBack.at(reader);
            case 5: return library.readerWasted.at(reader);
            case 6: return library.notesThatCall(reader);
            default: return BAD_VALUE;
        }
    }

    public int count(int what) {
        switch (what) {
            case 0: return library.totals.at(MESSAGES);
            case 1: return library.totals.at(WASTED);
            case 2: return library.totals.at(SHOUTS);
            case 3: return library.shelves.howMany();
            case 4: return library.shelves.howManyChanged();
            case 5: return library.cards.howManyInUse();
            case 6: return library.cards.howManyGrouped();
            case 7: return library.settings.at(NAMES);
            case 8: return library.settings.at(SIZE);
            case 9: return library.settings.at(ROOM);
            case 10: return library.settings.at(FORGET);
            case 11: return pad.length;
            case 12: return history.length;
            default: return BAD_VALUE;
        }
    }

    // ---- what if; nothing changes

    public int costOfReading(int reader, int note) {
        return isReader(reader) && isNote(note) ? library.messagesToRead(reader, note) : NO_SUCH;
    }

    public int costOfChange(int reader, int note, int what) {
        if (!isReader(reader) || !isNote(note)) {
            return NO_SUCH;
        }
        switch (what) {
            case 0: return library.messagesToChange(reader, note);
            case 1: return library.wastedToChange(reader, note);
            default: return BAD_VALUE;
        }
    }

    public int cheapest(int note) {
        if (!isNote(note)) {
            return NO_SUCH;
        }
        int best = 0;
        int fewest = library.messagesToChange(0, note);
        for (int reader = 1; reader < READERS; reader++) {
            int messages = library.messagesToChange(reader, note);
            if (messages < fewest) {
                best = reader;
                fewest = messages;
            }
        }
        return best;
    }

    public int loudest(int what) {
        if (what != 0 && what != 1) {
            return BAD_VALUE;
        }
        int loudest = NONE;
        int most = 0;
        for (int note = 0; note < NOTES; note++) {
            int wasted = library.fewestWasted(note);
            if (wasted > most) {
                loudest = note;
                most = wasted;
            }
        }
        return loudest == NONE || what == 0 ? loudest : most;
    }

    public int accountWith(int names, int size) {
        if (!isValueOf(NAMES, names) || !isValueOf(SIZE, size)) {
            return BAD_VALUE;
        }
        return trial.messagesOfAccount(library, names, size);
    }

    public int best(int what) {
        if (what < 0 || what > 2) {
            return BAD_VALUE;
        }
        int bestNames = 0;
        int bestSize = 0;
        int fewest = NONE;
        for (int names = LOWEST[NAMES]; names <= HIGHEST[NAMES]; names++) {
            for (int size = LOWEST[SIZE]; size <= HIGHEST[SIZE]; size++) {
                int messages = trial.messagesOfAccount(library, names, size);
                if (fewest == NONE || messages < fewest) {
                    bestNames = names;
                    bestSize = size;
                    fewest = messages;
                }
            }
        }
        return what == 0 ? bestNames : what == 1 ? bestSize : fewest;
    }

    // ---- the account

    public int account() {
        history.keep(library);
        int had = library.account.length;
        library.account.clear();
        return had;
    }

    // ---- texts

    public int put(long characters) {
        int many = howManyCharacters(characters);
        if (many == 0) {
            return BAD_VALUE;
        }
        if (pad.length + many > PAD_LENGTH) {
            return TOO_MANY;
        }
        for (int i = many - 1; i >= 0; i--) {
            pad.append(codeAt(characters, i));
        }
        return pad.length;
    }

    public int wipe() {
        int had = pad.length;
        pad.length = 0;
        return had;
    }

    public int fault() {
        return orders.findFault();
    }

    public int carryOut() {
        if (orders.findFault() != NONE) {
            return BAD_TEXT;
        }
        history.keep(library);
        int done = 0;
        orders.place = 0;
        while (done < PAD_LENGTH && orders.takeNext()
                && happen(orders.kind, orders.reader, orders.note, orders.value, false) >= 0) {
            done++;
        }
        pad.length = 0;
        return done;
    }

    /** How many characters the number gives; 0 if it is not a number of characters. */
    private static int howManyCharacters(long characters) {
        int many = 0;
        while (many < 8 && codeAt(characters, many) != 0) {
            int code = codeAt(characters, many);
            if (code < 33 || code > 126) {
                return 0;
            }
            many++;
        }
        // A shift by 64 would shift by 0.
        return many == 8 || characters >>> (8 * many) == 0 ? many : 0;
    }

    private static int codeAt(long characters, int fromTheLast) {
        return (int) (characters >>> (8 * fromTheLast) & 255);
    }

    // ---- undo, saving

    public int undo() {
        return history.takeBack(library) ? history.length : NOT_POSSIBLE;
    }

    public int save(int slot) {
        if (slot < 0 || slot >= slots.length) {
            return BAD_VALUE;
        }
        Library saved = slots[slot];
        if (saved == null) {
            saved = new Library();
            slots[slot] = saved;
        }
        saved.copyFrom(library);
        return library.totals.at(MESSAGES);
    }

    public int restore(int slot) {
        if (slot < 0 || slot >= slots.length) {
            return BAD_VALUE;
        }
        Library saved = slots[slot];
        if (saved == null) {
            return NOT_POSSIBLE;
        }
        history.keep(library);
        library.copyFrom(saved);
        return library.totals.at(MESSAGES);
    }

    // ---- what the classes inside share

    private static boolean isReader(int reader) {
        return reader >= 0 && reader < READERS;
    }

    private static boolean isNote(int note) {
        return note >= 0 && note < NOTES;
    }

    private static boolean isValueOf(int setting, int value) {
        return setting >= 0 && setting < LOWEST.length && setting < HIGHEST.length
                && value >= LOWEST[setting] && value <= HIGHEST[setting];
    }

    private static int groupOf(int reader, int size) {
        return size > 0 ? reader / size : 0;
    }

    private static int only(int member) {
        return 1 << member;
    }

    private static boolean isIn(int member, int set) {
        return (set >> member & 1) != 0;
    }

    /** A row of numbers that is 0 beyond its ends, so that no index can fail. */
    private static final class Row {
        private final int[] cells;

        Row(int length) {
            cells = new int[length > 0 ? length : 0];
        }

        int at(int index) {
            return index >= 0 && index < cells.length ? cells[index] : 0;
        }

        void write(int index, int number) {
            if (index >= 0 && index < cells.length) {
                cells[index] = number;
            }
        }

        void add(int index, int number) {
            if (index >= 0 && index < cells.length) {
                cells[index] += number;
            }
        }

        void clear() {
            Arrays.fill(cells, 0);
        }

        void copyFrom(Row other) {
            System.arraycopy(other.cells, 0, cells, 0, Math.min(other.cells.length, cells.length));
        }
    }

    /** The readers' shelves: the copy that was used longest ago lies at place 0. */
    private static final class Shelves {
        private final Row lengths = new Row(READERS);
        private final Row notes = new Row(READERS * SHELF_LENGTH);
        private final Row values = new Row(READERS * SHELF_LENGTH);
        private final Row changed = new Row(READERS * SHELF_LENGTH);
        // The readers who have a copy of each note: known here so that a call need not look through a shelf in vain.
        private final Row holders = new Row(NOTES);

        int noteAt(int reader, int place) {
            return notes.at(reader * SHELF_LENGTH + place);
        }

        int valueAt(int reader, int place) {
            return values.at(reader * SHELF_LENGTH + place);
        }

        boolean isChangedAt(int reader, int place) {
            return changed.at(reader * SHELF_LENGTH + place) == 1;
        }

        boolean holds(int reader, int note) {
            return isIn(reader, holders.at(note));
        }

        int placeOf(int reader, int note) {
            int first = reader * SHELF_LENGTH;
            int length = lengths.at(reader);
            for (int place = 0; place < length; place++) {
                if (notes.at(first + place) == note) {
                    return place;
                }
            }
            return NOWHERE;
        }

        void lay(int reader, int note, int value, boolean isChanged) {
            int length = lengths.at(reader);
            if (length >= SHELF_LENGTH) {
                return;
            }
            int cell = reader * SHELF_LENGTH + length;
            notes.write(cell, note);
            values.write(cell, value);
            changed.write(cell, isChanged ? 1 : 0);
            lengths.write(reader, length + 1);
            holders.write(note, holders.at(note) | only(reader));
        }

        void remove(int reader, int place) {
            int length = lengths.at(reader);
            if (place < 0 || place >= length) {
                return;
            }
            int first = reader * SHELF_LENGTH + place;
            int last = reader * SHELF_LENGTH + length - 1;
            int note = notes.at(first);
            holders.write(note, holders.at(note) & ~only(reader));
            for (int cell = first; cell < last; cell++) {
                notes.write(cell, notes.at(cell + 1));
                values.write(cell, values.at(cell + 1));
                changed.write(cell, changed.at(cell + 1));
            }
            lengths.write(reader, length - 1);
        }

        int howMany() {
            int many = 0;
            for (int reader = 0; reader < READERS; reader++) {
                many += lengths.at(reader);
            }
            return many;
        }

        int howManyChanged() {
            int many = 0;
            for (int reader = 0; reader < READERS; reader++) {
                int length = lengths.at(reader);
                for (int place = 0; place < length; place++) {
                    many += isChangedAt(reader, place) ? 1 : 0;
                }
            }
            return many;
        }

        void clear() {
            lengths.clear();
            holders.clear();
        }

        void copyFrom(Shelves other) {
            lengths.copyFrom(other.lengths);
            notes.copyFrom(other.notes);
            values.copyFrom(other.values);
            changed.copyFrom(other.changed);
            holders.copyFrom(other.holders);
        }
    }

    /** The notes' cards: what each is, and the set of readers or groups that it names. */
    private static final class Cards {
        private final Row kinds = new Row(NOTES);
        private final Row names = new Row(NOTES);

        boolean isOwnedBy(int note, int reader) {
            return kinds.at(note) == OWNED && isIn(reader, names.at(note));
        }

        int called(int note, int size) {
            int named = names.at(note);
            if (kinds.at(note) != GROUPED) {
                return named;
            }
            int called = 0;
            for (int reader = 0; reader < READERS; reader++) {
                if (isIn(groupOf(reader, size), named)) {
                    called |= only(reader);
                }
            }
            return called;
        }

        void become(int note, int kind, int named) {
            kinds.write(note, kind);
            names.write(note, named);
        }

        void name(int note, int reader, int most, int size) {
            int named = names.at(note);
            if (kinds.at(note) == GROUPED) {
                names.write(note, named | only(groupOf(reader, size)));
            } else if (isIn(reader, named) || Integer.bitCount(named) < most) {
                become(note, NAMED, named | only(reader));
            } else {
                become(note, GROUPED, groupsOf(named | only(reader), size));
            }
        }

        void strike(int note, int reader) {
            if (kinds.at(note) == GROUPED) {
                return;
            }
            int others = names.at(note) & ~only(reader);
            names.write(note, others);
            if (others == 0) {
                kinds.write(note, BLANK);
            }
        }

        int howManyInUse() {
            int many = 0;
            for (int note = 0; note < NOTES; note++) {
                many += kinds.at(note) == BLANK ? 0 : 1;
            }
            return many;
        }

        int howManyGrouped() {
            int many = 0;
            for (int note = 0; note < NOTES; note++) {
                many += kinds.at(note) == GROUPED ? 1 : 0;
            }
            return many;
        }

        void clear() {
            kinds.clear();
            names.clear();
        }

        void copyFrom(Cards other) {
            kinds.copyFrom(other.kinds);
            names.copyFrom(other.names);
        }

        private static int groupsOf(int readers, int size) {
            int groups = 0;
            for (int reader = 0; reader < READERS; reader++) {
                if (isIn(reader, readers)) {
                    groups |= only(groupOf(reader, size));
                }
            }
            return groups;
        }
    }

    /** The latest readings and changes, the oldest one first; what value was given has no part in what they cost. */
    private static final class Account {
        private final Row kinds = new Row(ACCOUNT_LENGTH);
        private final Row readers = new Row(ACCOUNT_LENGTH);
        private final Row notes = new Row(ACCOUNT_LENGTH);
        private int first;
        private int length;

        int cellOf(int index) {
            return (first + index) % ACCOUNT_LENGTH;
        }

        void append(int kind, int reader, int note) {
            int cell = cellOf(length);
            kinds.write(cell, kind);
            readers.write(cell, reader);
            notes.write(cell, note);
            if (length < ACCOUNT_LENGTH) {
                length++;
            } else {
                first = cellOf(1);
            }
        }

        void clear() {
            first = 0;
            length = 0;
        }

        void copyFrom(Account other) {
            kinds.copyFrom(other.kinds);
            readers.copyFrom(other.readers);
            notes.copyFrom(other.notes);
            first = other.first;
            length = other.length;
        }
    }

    /** Everything that undo() brings back and save() keeps. */
    private static final class Library {
        private final Row settings = new Row(AT_FIRST.length);
        private final Row values = new Row(NOTES);
        private final Cards cards = new Cards();
        private final Shelves shelves = new Shelves();
        private final Account account = new Account();
        private final Row totals = new Row(TOTALS);
        private final Row noteCalledBack = new Row(NOTES);
        private final Row noteShouts = new Row(NOTES);
        private final Row readerUses = new Row(READERS);
        private final Row readerQuietUses = new Row(READERS);
        private final Row readerCalledBack = new Row(READERS);
        private final Row readerWasted = new Row(READERS);

        Library() {
            for (int setting = 0; setting < AT_FIRST.length; setting++) {
                settings.write(setting, AT_FIRST[setting]);
            }
        }

        void copyFrom(Library other) {
            settings.copyFrom(other.settings);
            values.copyFrom(other.values);
            cards.copyFrom(other.cards);
            shelves.copyFrom(other.shelves);
            account.copyFrom(other.account);
            totals.copyFrom(other.totals);
            noteCalledBack.copyFrom(other.noteCalledBack);
            noteShouts.copyFrom(other.noteShouts);
            readerUses.copyFrom(other.readerUses);
            readerQuietUses.copyFrom(other.readerQuietUses);
            readerCalledBack.copyFrom(other.readerCalledBack);
            readerWasted.copyFrom(other.readerWasted);
        }

        int errorOf(int kind, int reader, int note, int value) {
            if (kind != RECALLING && !isReader(reader) || !isNote(note)) {
                return NO_SUCH;
            }
            if (kind == CHANGING && (value < 0 || value > TOP_VALUE)) {
                return BAD_VALUE;
            }
            if (kind == PUTTING_BACK && !shelves.holds(reader, note)
                    || kind == RECALLING && cards.kinds.at(note) == BLANK) {
                return NOT_POSSIBLE;
            }
            return FINE;
        }

        /** Returns the value that is read. */
        int lend(int reader, int note) {
            int place = shelves.placeOf(reader, note);
            boolean isThere = place != NOWHERE;
            noteUse(reader, isThere);
            if (isThere) {
                int value = shelves.valueAt(reader, place);
                boolean isChanged = shelves.isChangedAt(reader, place);
                shelves.remove(reader, place);
                shelves.lay(reader, note, value, isChanged);
                return value;
            }
            if (cards.kinds.at(note) == OWNED) {
                callBack(note, reader);
                cards.become(note, BLANK, 0);
            }
            makeRoom(reader);
            totals.add(MESSAGES, 2);
            shelves.lay(reader, note, values.at(note), false);
            cards.name(note, reader, settings.at(NAMES), settings.at(SIZE));
            return values.at(note);
        }

        /** Returns how many messages it took. */
        int rewrite(int reader, int note, int value) {
            int before = totals.at(MESSAGES);
            boolean isOwner = cards.isOwnedBy(note, reader);
            noteUse(reader, isOwner);
            if (!isOwner) {
                callBack(note, reader);
                totals.add(MESSAGES, 2);
            }
            if (shelves.holds(reader, note)) {
                shelves.remove(reader, shelves.placeOf(reader, note));
            } else {
                makeRoom(reader);
            }
            shelves.lay(reader, note, value, true);
            cards.become(note, OWNED, only(reader));
            return totals.at(MESSAGES) - before;
        }

        /** Returns how many copies were taken away. */
        int callIn(int note) {
            int taken = callBack(note, NOBODY);
            cards.become(note, BLANK, 0);
            return taken;
        }

        /** Returns 1 if the copy was changed, otherwise 0. */
        int giveBack(int reader, int place) {
            int note = shelves.noteAt(reader, place);
            boolean isChanged = shelves.isChangedAt(reader, place);
            if (isChanged) {
                values.write(note, shelves.valueAt(reader, place));
            }
            shelves.remove(reader, place);
            if (isChanged || settings.at(FORGET) == 1) {
                totals.add(MESSAGES, 1);
                cards.strike(note, reader);
            }
            return isChanged ? 1 : 0;
        }

        /** Calls a note back from all its called but one; returns how many copies were taken away. */
        private int callBack(int note, int but) {
            boolean isShout = cards.kinds.at(note) == GROUPED;
            int called = called(note);
            int taken = 0;
            for (int reader = 0; reader < READERS; reader++) {
                if (reader == but || !isIn(reader, called)) {
                    continue;
                }
                totals.add(MESSAGES, 1);
                if (isShout) {
                    totals.add(SHOUTS, 1);
                    noteShouts.add(note, 1);
                }
                if (shelves.holds(reader, note)) {
                    taken++;
                    takeAway(reader, note);
                } else {
                    totals.add(WASTED, 1);
                    readerWasted.add(reader, 1);
                }
            }
            return taken;
        }

        private void takeAway(int reader, int note) {
            int place = shelves.placeOf(reader, note);
            totals.add(MESSAGES, 1);
            noteCalledBack.add(note, 1);
            readerCalledBack.add(reader, 1);
            if (shelves.isChangedAt(reader, place)) {
                values.write(note, shelves.valueAt(reader, place));
            }
            shelves.remove(reader, place);
        }

        private void makeRoom(int reader) {
            int needed = copiesInTheWay(reader);
            for (int i = 0; i < needed; i++) {
                giveBack(reader, 0);
            }
        }

        private int copiesInTheWay(int reader) {
            return Math.max(0, shelves.lengths.at(reader) - settings.at(ROOM) + 1);
        }

        private void noteUse(int reader, boolean isQuiet) {
            readerUses.add(reader, 1);
            readerQuietUses.add(reader, isQuiet ? 1 : 0);
        }

        int called(int note) {
            return cards.called(note, settings.at(SIZE));
        }

        int notesThatCall(int reader) {
            int notes = 0;
            for (int note = 0; note < NOTES; note++) {
                if (isIn(reader, called(note))) {
                    notes |= only(note);
                }
            }
            return notes;
        }

        int valueToRead(int note) {
            for (int reader = 0; reader < READERS; reader++) {
                if (cards.isOwnedBy(note, reader)) {
                    return shelves.valueAt(reader, shelves.placeOf(reader, note));
                }
            }
            return values.at(note);
        }

        int messagesToRead(int reader, int note) {
            if (shelves.holds(reader, note)) {
                return 0;
            }
            int toTheOwner = cards.kinds.at(note) == OWNED ? 2 : 0;
            return toTheOwner + messagesToMakeRoom(reader) + 2;
        }

        int messagesToChange(int reader, int note) {
            if (cards.isOwnedBy(note, reader)) {
                return 0;
            }
            int called = called(note) & ~only(reader);
            int answers = called & shelves.holders.at(note);
            int forRoom = shelves.holds(reader, note) ? 0 : messagesToMakeRoom(reader);
            return Integer.bitCount(called) + Integer.bitCount(answers) + forRoom + 2;
        }

        int wastedToChange(int reader, int note) {
            return Integer.bitCount(called(note) & ~only(reader) & ~shelves.holders.at(note));
        }

        int fewestWasted(int note) {
            int silent = called(note) & ~shelves.holders.at(note);
            int fewest = Integer.bitCount(silent);
            // A change by one who would be called in vain spares just the one message to this reader.
            return fewest > 0 ? fewest - 1 : 0;
        }

        private int messagesToMakeRoom(int reader) {
            int needed = copiesInTheWay(reader);
            if (settings.at(FORGET) == 1) {
                return needed;
            }
            int messages = 0;
            for (int place = 0; place < needed; place++) {
                messages += shelves.isChangedAt(reader, place) ? 1 : 0;
            }
            return messages;
        }

        /** Starts anew with two settings of its own, follows another library's account, and counts the messages. */
        int messagesOfAccount(Library other, int names, int size) {
            settings.copyFrom(other.settings);
            settings.write(NAMES, names);
            settings.write(SIZE, size);
            cards.clear();
            shelves.clear();
            totals.clear();
            for (int i = 0; i < other.account.length; i++) {
                int cell = other.account.cellOf(i);
                int reader = other.account.readers.at(cell);
                int note = other.account.notes.at(cell);
                if (other.account.kinds.at(cell) == CHANGING) {
                    rewrite(reader, note, 0);
                } else {
                    lend(reader, note);
                }
            }
            return totals.at(MESSAGES);
        }
    }

    /** The states before the latest changes. */
    private static final class History {
        private final Library[] states = new Library[HISTORY_LENGTH];
        private int first;
        private int length;

        History() {
            for (int i = 0; i < states.length; i++) {
                states[i] = new Library();
            }
        }

        void keep(Library library) {
            if (length >= HISTORY_LENGTH) {
                first = (first + 1) % HISTORY_LENGTH;
                length--;
            }
            Library state = stateAt(length);
            if (state != null) {
                state.copyFrom(library);
                length++;
            }
        }

        boolean takeBack(Library library) {
            Library state = length > 0 ? stateAt(length - 1) : null;
            if (state == null) {
                return false;
            }
            library.copyFrom(state);
            length--;
            return true;
        }

        private Library stateAt(int index) {
            int cell = (first + index) % HISTORY_LENGTH;
            return cell >= 0 && cell < states.length ? states[cell] : null;
        }
    }

    /** The text of orders. */
    private static final class Pad {
        private final Row codes = new Row(PAD_LENGTH);
        private int length;

        /** 0, which is no character of a text, behind the end. */
        int codeAt(int place) {
            return place < length ? codes.at(place) : 0;
        }

        void append(int code) {
            codes.write(length, code);
            length++;
        }
    }

    /** Reads the pad's orders one by one; where one can't be read on, the place stays at what is in the way. */
    private static final class Orders {
        private final Pad pad = new Pad();
        private int place;
        private int number;
        private int kind;
        private int reader;
        private int note;
        private int value;

        int findFault() {
            place = 0;
            for (int i = 0; i < PAD_LENGTH; i++) {
                if (!takeNext()) {
                    return place;
                }
                if (place >= pad.length) {
                    return NONE;
                }
            }
            return NONE;
        }

        boolean takeNext() {
            return (place == 0 || take(';')) && takeKind() && takeReader() && takeNote() && takeValue();
        }

        private boolean takeKind() {
            kind = kindOf(pad.codeAt(place));
            if (kind == NO_ORDER) {
                return false;
            }
            place++;
            return true;
        }

        private boolean takeReader() {
            reader = 0;
            if (kind == RECALLING) {
                return true;
            }
            boolean isThere = takeNumber();
            reader = number;
            return isThere && take(':');
        }

        private boolean takeNote() {
            boolean isThere = takeNumber();
            note = number;
            return isThere;
        }

        private boolean takeValue() {
            value = 0;
            if (kind != CHANGING) {
                return true;
            }
            boolean isThere = take('=') && takeNumber();
            value = number;
            return isThere;
        }

        /** A digit beyond those that a number can have is in the way of what has to follow. */
        private boolean takeNumber() {
            int start = place;
            int digits = pad.codeAt(place) == '0' ? 1 : DIGITS;
            number = 0;
            for (int i = 0; i < digits && isDigit(pad.codeAt(place)); i++) {
                number = number * 10 + pad.codeAt(place) - '0';
                place++;
            }
            return place > start;
        }

        private boolean take(int code) {
            if (pad.codeAt(place) != code) {
                return false;
            }
            place++;
            return true;
        }

        private static boolean isDigit(int code) {
            return code >= '0' && code <= '9';
        }

        private static int kindOf(int code) {
            switch (code) {
                case 'r': return READING;
                case 'w': return CHANGING;
                case 'b': return PUTTING_BACK;
                case 'c': return RECALLING;
                default: return NO_ORDER;
            }
        }
    }
}

import java.util.Random;

/** Long runs of calls, each answered by the class and by the model; the same ones every time. */
public final class ModelTest {
    private static final int RUNS = 1000;
    // What a step may take at most, and enough for a look at everything without too many objects.
    private static final int CALLS_KEPT = 100;
    private static final Check check = new Check();

    private final Random random;
    private final Told x = new Told();
    private final Model model = new Model();
    private final int readers;
    private final int notes;
    private final int readsOnly;
    private int run;

    private ModelTest(int run) {
        this.run = run;
        random = new Random(run);
        // Few notes and readers meet often; many fill the shelves.
        readers = 1 + random.nextInt(16);
        notes = 1 + random.nextInt(24);
        readsOnly = random.nextInt(4);
    }

    public static void main(String[] args) {
        for (int run = 0; run < RUNS; run++) {
            new ModelTest(run).compare();
        }
        check.end();
    }

    private void compare() {
        int halfway = Told.CALLS / 4 + random.nextInt(Told.CALLS / 2);
        boolean isHalfway = false;
        while (x.callsLeft() > CALLS_KEPT) {
            step();
            if (!isHalfway && x.callsLeft() < halfway) {
                isHalfway = true;
                askAll();
            }
        }
        askAll();
    }

    private void step() {
        int kind = random.nextInt(100);
        if (kind < 65) {
            happen();
        } else if (kind < 80) {
            ask();
        } else if (kind < 88) {
            write();
        } else {
            keep();
        }
    }

    /** Now and then a number that is just outside, or far outside. */
    private int about(int bound) {
        int kind = random.nextInt(40);
        return kind == 0 ? -1 : kind == 1 ? bound : kind == 2 ? random.nextInt() : random.nextInt(bound);
    }

    private int reader() {
        int reader = about(16);
        return reader < 0 || reader > 15 ? reader : reader % readers;
    }

    private int note() {
        int note = about(24);
        return note < 0 || note > 23 ? note : note % notes;
    }

    private void due(String call, int got, int want) {
        check.due("run " + run + ": " + call, got, want);
    }

    private void happen() {
        int reader = reader();
        int note = note();
        int value = about(10000);
        int kind = random.nextInt(12);
        if (kind < 5) {
            due("read(" + reader + ", " + note + ")", x.read(reader, note), model.read(reader, note));
        } else if (kind < 8 - readsOnly) {
            due("change(" + reader + ", " + note + ", " + value + ")", x.change(reader, note, value),
                    model.change(reader, note, value));
        } else if (kind < 10) {
            due("putBack(" + reader + ", " + note + ")", x.putBack(reader, note), model.putBack(reader, note));
        } else if (kind == 10) {
            due("recall(" + note + ")", x.recall(note), model.recall(note));
        } else {
            int setting = about(4);
            int to = about(9);
            due("set(" + setting + ", " + to + ")", x.set(setting, to), model.set(setting, to));
        }
    }

    private void ask() {
        int reader = reader();
        int note = note();
        switch (random.nextInt(9)) {
            case 0: askNote(note); break;
            case 1: askReader(reader); break;
            case 2: askCount(); break;
            case 3:
                due("costOfReading(" + reader + ", " + note + ")", x.costOfReading(reader, note),
                        model.costOfReading(reader, note));
                break;
            case 4: {
                int what = about(2);
                due("costOfChange(" + reader + ", " + note + ", " + what + ")", x.costOfChange(reader, note, what),
                        model.costOfChange(reader, note, what));
                break;
            }
            case 5: due("cheapest(" + note + ")", x.cheapest(note), model.cheapest(note)); break;
            case 6: {
                int what = about(2);
                due("loudest(" + what + ")", x.loudest(what), model.loudest(what));
                break;
            }
            case 7: {
                int names = about(5);
                int size = about(9);
                due("accountWith(" + names + ", " + size + ")", x.accountWith(names, size),
                        model.accountWith(names, size));
                break;
            }
            default: {
                int what = about(3);
                due("best(" + what + ")", x.best(what), model.best(what));
                break;
            }
        }
    }

    private void askNote(int note) {
        int what = about(9);
        due("ofNote(" + note + ", " + what + ")", x.ofNote(note, what), model.ofNote(note, what));
    }

    private void askReader(int reader) {
        int what = about(7);
        due("ofReader(" + reader + ", " + what + ")", x.ofReader(reader, what), model.ofReader(reader, what));
        int place = about(1 + random.nextInt(8));
        what = about(3);
        due("onShelf(" + reader + ", " + place + ", " + what + ")", x.onShelf(reader, place, what),
                model.onShelf(reader, place, what));
    }

    private void askCount() {
        int what = about(13);
        due("count(" + what + ")", x.count(what), model.count(what));
    }

    /** Asks everything of other objects after the same calls. */
    private void askAll() {
        Told y = x.again();
        for (int what = -1; what <= 13; what++) {
            due("count(" + what + ")", y.count(what), model.count(what));
        }
        for (int what = -1; what <= 2; what++) {
            due("loudest(" + what + ")", y.loudest(what), model.loudest(what));
        }
        due("fault()", y.fault(), model.fault());
        for (int note = -1; note <= 24; note++) {
            y = withCalls(y, 11);
            for (int what = -1; what <= 9; what++) {
                due("ofNote(" + note + ", " + what + ")", y.ofNote(note, what), model.ofNote(note, what));
            }
        }
        for (int reader = -1; reader <= 16; reader++) {
            y = withCalls(y, 49);
            for (int what = -1; what <= 7; what++) {
                due("ofReader(" + reader + ", " + what + ")", y.ofReader(reader, what), model.ofReader(reader, what));
            }
            for (int place = -1; place <= 8; place++) {
                for (int what = -1; what <= 2; what++) {
                    due("onShelf(" + reader + ", " + place + ", " + what + ")", y.onShelf(reader, place, what),
                            model.onShelf(reader, place, what));
                }
            }
        }
        askWhatIf(random.nextInt(16), random.nextInt(24));
    }

    private void askWhatIf(int reader, int note) {
        Told y = x.again();
        due("cheapest(" + note + ")", y.cheapest(note), model.cheapest(note));
        for (int each = 0; each < 16; each++) {
            due("costOfReading(" + each + ", " + note + ")", y.costOfReading(each, note),
                    model.costOfReading(each, note));
        }
        for (int each = 0; each < 24; each++) {
            int what = each % 2;
            due("costOfChange(" + reader + ", " + each + ", " + what + ")", y.costOfChange(reader, each, what),
                    model.costOfChange(reader, each, what));
        }
        int names = random.nextInt(5);
        int size = 1 + random.nextInt(8);
        due("accountWith(" + names + ", " + size + ")", y.accountWith(names, size), model.accountWith(names, size));
    }

    private Told withCalls(Told y, int needed) {
        return y.callsLeft() >= needed ? y : x.again();
    }

    private void write() {
        if (random.nextInt(8) == 0) {
            due("wipe()", x.wipe(), model.wipe());
        }
        int orders = 1 + random.nextInt(3);
        for (int i = 0; i < orders; i++) {
            String text = order();
            if (random.nextInt(6) == 0) {
                int at = random.nextInt(text.length() + 1);
                String signs = "rwbc0123456789:=;;!~";
                text = text.substring(0, at) + signs.charAt(random.nextInt(signs.length())) + text.substring(at);
            }
            putText(x.count(11) > 0 && random.nextInt(10) > 0 ? ";" + text : text);
            due("fault()", x.fault(), model.fault());
        }
        if (random.nextInt(10) == 0) {
            long odd = random.nextLong() >>> 8 * random.nextInt(8);
            due("put(" + odd + ")", x.put(odd), model.put(odd));
        }
        if (random.nextInt(3) > 0) {
            due("carryOut()", x.carryOut(), model.carryOut());
        }
    }

    private String order() {
        int reader = random.nextInt(30) == 0 ? 16 : random.nextInt(readers);
        int note = random.nextInt(30) == 0 ? random.nextInt(11000) : random.nextInt(notes);
        switch (random.nextInt(5)) {
            case 0: return "w" + reader + ":" + note + "=" + random.nextInt(10200);
            case 1: return "b" + reader + ":" + note;
            case 2: return "c" + note;
            default: return "r" + reader + ":" + note;
        }
    }

    private void putText(String text) {
        for (int from = 0; from < text.length(); from += 8) {
            long part = Look.pack(text.substring(from, Math.min(text.length(), from + 8)));
            due("put(" + part + ")", x.put(part), model.put(part));
        }
    }

    private void keep() {
        int slot = about(2);
        switch (random.nextInt(8)) {
            case 0: due("save(" + slot + ")", x.save(slot), model.save(slot)); break;
            case 1: due("restore(" + slot + ")", x.restore(slot), model.restore(slot)); break;
            case 2: if (random.nextInt(8) == 0) {
                due("account()", x.account(), model.account());
            }
            break;
            case 3: for (int note = 0; note < 24; note++) {
                if (x.ofNote(note, 1) != ShoutGroups.BLANK && random.nextInt(3) > 0) {
                    due("recall(" + note + ")", x.recall(note), model.recall(note));
                }
            }
            break;
            default: due("undo()", x.undo(), model.undo()); break;
        }
    }
}

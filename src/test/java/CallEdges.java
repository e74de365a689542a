/** The terms on calls. */
final class CallEdges {
    private static final Check check = EdgesTest.CHECK;

    static void all() {
        callFromAReader();
        givesItsValue();
        wasted();
        butFromOne();
        shouts();
    }

    private static Told with(int names, int size) {
        Told x = new Told();
        x.set(ShoutGroups.NAMES, names);
        x.set(ShoutGroups.SIZE, size);
        return x;
    }

    /** What there is to count of calls: messages, wasted ones, shouts. */
    private static void counts(String name, Told x, int messages, int wasted, int shouts) {
        check.due(name + ": messages", x.count(0), messages);
        check.due(name + ": wasted", x.count(1), wasted);
        check.due(name + ": shouts", x.count(2), shouts);
    }

    private static void callFromAReader() {
        EdgesTest.sentence(0, "To call a copy back from a reader: one message; if there is a copy of this note on the "
                + "reader's shelf, it is taken away (a changed copy gives its value to the note first), and the reader "
                + "answers: one message more.");
        Told x = new Told();
        x.read(7, 3);
        x.recall(3);
        counts("a copy", x, 2 + 2, 0, 0);
        check.due("it is taken away", Look.shelf(x, 7), "");
        x.read(7, 3);
        x.putBack(7, 3);
        x.recall(3);
        counts("no copy", x, 4 + 2 + 1, 1, 0);
        x.read(7, 3);
        x.read(7, 4);
        x.putBack(7, 3);
        x.recall(3);
        counts("a copy of another note only", x, 7 + 4 + 1, 2, 0);
        check.due("the other one stays", Look.shelf(x, 7), "4");
    }

    private static void givesItsValue() {
        EdgesTest.sentence(0, "(a changed copy gives its value to the note first)");
        Told x = new Told();
        x.change(7, 3, 9999);
        check.due("the library's value before", x.ofNote(3, 0), 0);
        check.due("recall(3)", x.recall(3), 1);
        counts("from an owner", x, 2 + 2, 0, 0);
        check.due("the library's value after a recall", x.ofNote(3, 0), 9999);
        x.change(7, 3, 0);
        check.due("before another reads", x.ofNote(3, 0), 9999);
        check.due("another reads", x.read(8, 3), 0);
        check.due("after another reads", x.ofNote(3, 0), 0);
        x.change(7, 3, 1234);
        x.change(8, 3, 4321);
        check.due("after another changes", x.ofNote(3, 0), 1234);
        check.due("the copy's value", x.onShelf(8, 0, 1), 4321);
        x.read(9, 3);
        x.recall(3);
        check.due("copies that are not changed", x.ofNote(3, 0), 4321);
    }

    private static void wasted() {
        EdgesTest.sentence(0, "A message to a reader who has no copy of the note is wasted (and not answered).");
        Told x = with(4, 4);
        for (int reader = 0; reader < 3; reader++) {
            x.read(reader, 5);
        }
        x.putBack(1, 5);
        check.due("one of three without a copy", x.recall(5), 2);
        counts("recall", x, 6 + 2 + 1 + 2, 1, 0);
        for (int reader = 0; reader < 4; reader++) {
            check.due("wasted on " + reader, x.ofReader(reader, 5), reader == 1 ? 1 : 0);
            check.due("called back from " + reader, x.ofReader(reader, 4), reader == 0 || reader == 2 ? 1 : 0);
        }
        check.due("called back of the note", x.ofNote(5, 7), 2);
        x.read(1, 5);
        x.putBack(1, 5);
        check.due("a change", x.change(9, 5, 1), 1 + 2);
        check.due("wasted on 1 again", x.ofReader(1, 5), 2);
        check.due("wasted in all", x.count(1), 2);
        x.read(3, 6);
        int before = x.count(1);
        x.change(3, 6, 1);
        x.read(4, 6);
        check.due("messages to and from those who have or get a copy", x.count(1), before);
    }

    private static void butFromOne() {
        EdgesTest.sentence(0, "To call a note back but from some reader: it is called back from all its called but this one, "
                + "in ascending order;");
        int[][] due = {{0, 2 * 2 + 2}, {1, 2 * 2 + 2}, {2, 2 * 2 + 2}, {3, 2 * 3 + 2}, {15, 2 * 3 + 2}};
        for (int[] each : due) {
            Told x = with(4, 4);
            for (int reader = 0; reader < 3; reader++) {
                x.read(reader, 5);
            }
            check.due("a change by " + each[0], x.change(each[0], 5, 1), each[1]);
            for (int reader = 0; reader < 3; reader++) {
                check.due("called back from " + reader, x.ofReader(reader, 4), reader == each[0] ? 0 : 1);
            }
            check.due("whose copy is left", x.ofNote(5, 4), 1 << each[0]);
        }
        Told x = with(4, 4);
        x.read(3, 5);
        check.due("nobody else is called", x.change(3, 5, 1), 2);
        x = new Told();
        x.read(3, 5);
        x.putBack(3, 5);
        check.due("the changing reader is named, without a copy", x.change(3, 5, 1), 2);
        check.due("no message to it is wasted", x.count(1), 0);
    }

    private static void shouts() {
        EdgesTest.sentence(0, "with a GROUPED card each of these calls (not the answers) is a shout, too.");
        Told x = with(2, 4);
        x.read(0, 9);
        x.read(5, 9);
        x.change(6, 9, 1);
        counts("NAMED", x, 4 + 6, 0, 0);
        x.change(7, 9, 1);
        counts("OWNED", x, 10 + 4, 0, 0);
        x.read(0, 9);
        counts("read from an owner", x, 14 + 4, 0, 0);
        x.read(1, 9);
        x.read(2, 9);
        counts("readings", x, 18 + 4, 0, 0);
        x.change(3, 9, 1);
        counts("GROUPED, one of the group, three answers", x, 22 + 3 + 3 + 2, 0, 3);
        x = with(0, 8);
        x.read(8, 9);
        x.putBack(8, 9);
        x.change(8, 9, 1);
        counts("GROUPED, all the others in vain", x, 2 + 7 + 2, 7, 7);
        x.read(15, 9);
        x.read(0, 9);
        x.recall(9);
        counts("GROUPED, recalled", x, 11 + 4 + 2 + 16 + 2, 7 + 14, 7 + 16);
        check.due("shouts for the note", x.ofNote(9, 8), 23);
        check.due("shouts for another", x.ofNote(8, 8), 0);
        x = with(1, 1);
        x.read(3, 9);
        x.read(4, 9);
        x.change(3, 9, 1);
        counts("groups of one", x, 4 + 2 + 2, 0, 1);
    }
}

/** Promises 15 to 17: accountWith, best, account. */
final class AccountEdges {
    private static final int NAMES = ShoutGroups.NAMES, SIZE = ShoutGroups.SIZE;
    private static final int ROOM = ShoutGroups.ROOM, FORGET = ShoutGroups.FORGET;
    private static final int BAD_VALUE = ShoutGroups.BAD_VALUE;
    private static final int[] NO_NAMES = {-1, 5, 6, Integer.MIN_VALUE, Integer.MAX_VALUE};
    private static final int[] NO_SIZES = {-1, 0, 9, 10, Integer.MIN_VALUE, Integer.MAX_VALUE};
    private static final Check check = EdgesTest.CHECK;

    static void all() {
        withOtherSettings();
        oneAfterTheOther();
        fromEmptyShelves();
        fromBlankCards();
        askedAgain();
        roomAsItIsNow();
        forgetAsItIsNow();
        leftOut();
        namesAndSizes();
        withRefused();
        best();
        bestOfSeveral();
        bestRefused();
        startsAnew();
        latestSixty();
        fromTheBeginningOn();
        isAChange();
        returnsHowMany();
    }

    private static Told with(int names, int size, int room, int forget) {
        Told x = new Told();
        x.set(NAMES, names);
        x.set(SIZE, size);
        x.set(ROOM, room);
        x.set(FORGET, forget);
        return x;
    }

    /** Whether the account costs the same with each setting. */
    private static void always(String name, Told x, int messages) {
        for (int names = 0; names <= 4; names++) {
            for (int size = 1; size <= 8; size++) {
                check.due(name + ": accountWith(" + names + ", " + size + ")", x.accountWith(names, size), messages);
            }
        }
    }

    /** Whether the account costs the same with each setting that lets a card name somebody. */
    private static void ifNamed(String name, Told x, int messages) {
        for (int names = 1; names <= 4; names++) {
            for (int size = 1; size <= 8; size++) {
                check.due(name + ": accountWith(" + names + ", " + size + ")", x.accountWith(names, size), messages);
            }
        }
    }

    private static void withOtherSettings() {
        EdgesTest.sentence(15, "Tells how many messages the readings and changes of the account would have taken with other "
                + "settings NAMES and SIZE,");
        // Of the groups of 0, 4 and 8, how many others a change by 12 calls.
        int[] inGroups = {3, 6, 9, 12, 10, 12, 13, 15};
        for (int now = 0; now <= 1; now++) {
            Told x = now == 0 ? new Told() : with(4, 8, 3, 0);
            always("nothing", x, 0);
            x.read(0, 0);
            x.read(4, 0);
            x.read(8, 0);
            always("three readings", x, 6);
            x.change(12, 0, 1);
            for (int names = 0; names <= 4; names++) {
                for (int size = 1; size <= 8; size++) {
                    int calls = names < 3 ? inGroups[size - 1] : 3;
                    check.due("accountWith(" + names + ", " + size + ")", x.accountWith(names, size), 6 + calls + 3 + 2);
                }
            }
            check.due("NAMES stays", x.count(7), now == 0 ? 2 : 4);
            check.due("SIZE stays", x.count(8), now == 0 ? 4 : 8);
        }
    }

    private static void oneAfterTheOther() {
        EdgesTest.sentence(15, "one after the other,");
        Told x = new Told();
        x.change(0, 0, 1);
        x.read(0, 0);
        x.read(1, 0);
        always("changed first", x, 2 + 0 + 4);
        x = new Told();
        x.read(0, 0);
        x.read(1, 0);
        x.change(0, 0, 1);
        check.due("changed last", x.accountWith(2, 4), 2 + 2 + 4);
    }

    private static void fromEmptyShelves() {
        EdgesTest.sentence(15, "from empty shelves");
        Told x = new Told();
        x.read(0, 0);
        x.account();
        x.read(0, 0);
        check.due("the copy was there", x.count(0), 2);
        always("but not on an empty shelf", x, 2);
        x.change(0, 0, 1);
        ifNamed("a change by the sharer", x, 2 + 2);
        x.change(0, 0, 2);
        ifNamed("and by the owner", x, 4);
        x = with(2, 4, 1, 1);
        x.change(0, 0, 1);
        x.account();
        x.read(0, 1);
        check.due("there was room to make", x.count(0), 2 + 1 + 2);
        always("but not on an empty shelf, either", x, 2);
    }

    private static void fromBlankCards() {
        EdgesTest.sentence(15, "and BLANK cards on,");
        Told x = new Told();
        x.change(0, 0, 1);
        x.account();
        x.read(1, 0);
        check.due("there was an owner", x.count(0), 2 + 4);
        always("but not on a BLANK card", x, 2);
        x.account();
        x.change(1, 0, 1);
        always("a change on a BLANK card", x, 2);
        x.account();
        x.change(1, 0, 2);
        check.due("a change by the owner takes none", x.count(0), 2 + 4 + 2);
        always("but on a BLANK card", x, 2);
    }

    /** What an earlier question found has no part in the next one. */
    private static void askedAgain() {
        EdgesTest.sentence(15, "from empty shelves and BLANK cards on,");
        Told x = new Told();
        x.read(0, 0);
        x.change(4, 0, 1);
        x.read(1, 0);
        for (int i = 0; i < 2; i++) {
            check.due("a group for each, " + i, x.accountWith(0, 8), 2 + 7 + 1 + 2 + 4);
            check.due("all named, " + i, x.accountWith(4, 8), 2 + 1 + 1 + 2 + 4);
            check.due("groups of one, " + i, x.accountWith(0, 1), 2 + 1 + 1 + 2 + 4);
        }
        x = new Told();
        x.read(0, 0);
        check.due("one reading", x.accountWith(0, 4), 2);
        x.account();
        x.read(1, 0);
        x.change(5, 0, 1);
        check.due("the first reader is in the group, but has no copy now", x.accountWith(0, 4), 2 + 4 + 1 + 2);
        x = with(2, 4, 1, 0);
        x.change(0, 0, 1);
        check.due("one change", x.accountWith(2, 4), 2);
        x.account();
        x.change(0, 1, 1);
        x.change(0, 0, 1);
        check.due("there is room to make now", x.accountWith(2, 4), 2 + 1 + 2);
    }

    private static void roomAsItIsNow() {
        EdgesTest.sentence(15, "with ROOM and FORGET as they are now");
        Told x = new Told();
        for (int note = 0; note < 8; note++) {
            x.read(3, note);
        }
        for (int note = 0; note < 8; note++) {
            x.read(3, note);
        }
        for (int room = 1; room <= 8; room++) {
            x.set(ROOM, room);
            always("ROOM " + room, x, room < 8 ? 32 : 16);
        }
        x.account();
        x.read(3, 0);
        x.read(3, 1);
        x.read(3, 0);
        check.due("there was ROOM for eight", x.count(0), 32 + 4);
        always("there still is", x, 4);
        x.set(ROOM, 2);
        always("for two", x, 4);
        x.set(ROOM, 1);
        always("for one", x, 6);
    }

    private static void forgetAsItIsNow() {
        EdgesTest.sentence(15, "ROOM and FORGET as they are now");
        Told x = with(2, 4, 1, 0);
        x.read(3, 0);
        x.read(3, 1);
        x.change(3, 2, 1);
        x.read(3, 3);
        always("FORGET 0", x, 2 + 2 + 2 + 1 + 2);
        x.set(FORGET, 1);
        check.due("FORGET 1", x.accountWith(2, 4), 2 + 1 + 2 + 1 + 2 + 1 + 2);
        x.set(FORGET, 0);
        always("FORGET 0 again", x, 9);
        // A copy put back by itself is not in the account; one that makes room strikes its card with FORGET as 1.
        x = with(2, 4, 1, 0);
        x.read(3, 0);
        x.read(3, 1);
        x.change(4, 0, 1);
        check.due("named, in vain", x.accountWith(2, 4), 2 + 2 + 1 + 2);
        x.set(FORGET, 1);
        check.due("struck", x.accountWith(1, 4), 2 + 1 + 2 + 2);
        check.due("a group is not struck", x.accountWith(0, 4), 2 + 1 + 2 + 4 + 2);
    }

    private static void leftOut() {
        EdgesTest.sentence(15, "(putBack() and recall() left out).");
        Told x = new Told();
        x.read(0, 0);
        x.putBack(0, 0);
        x.read(0, 0);
        check.due("the second reading took two", x.count(0), 4);
        always("but none if nothing is put back", x, 2);
        x.recall(0);
        x.read(0, 0);
        check.due("the third took two", x.count(0), 4 + 2 + 2);
        always("but none if nothing is recalled", x, 2);
        x.change(1, 0, 5);
        x.putBack(1, 0);
        x.read(2, 0);
        check.due("read from the library", x.count(0), 8 + 4 + 1 + 2);
        ifNamed("but from an owner if nothing is put back", x, 2 + 4 + 4);
        check.due("only readings and changes", x.account(), 5);
    }

    private static void namesAndSizes() {
        EdgesTest.sentence(15, "- `names`: 0 to 4 - `size`: 1 to 8");
        Told x = new Told();
        for (int reader = 0; reader < 4; reader++) {
            x.read(reader * 4, 0);
        }
        x.change(0, 0, 1);
        check.due("NAMES 0, SIZE 1", x.accountWith(0, 1), 8 + 3 + 3 + 2);
        check.due("NAMES 0, SIZE 8", x.accountWith(0, 8), 8 + 15 + 3 + 2);
        check.due("NAMES 3, SIZE 8", x.accountWith(3, 8), 8 + 15 + 3 + 2);
        check.due("NAMES 4, SIZE 8", x.accountWith(4, 8), 8 + 3 + 3 + 2);
        check.due("NAMES 4, SIZE 1", x.accountWith(4, 1), 8 + 3 + 3 + 2);
        check.due("NAMES -1", x.accountWith(-1, 1), BAD_VALUE);
        check.due("NAMES 5", x.accountWith(5, 1), BAD_VALUE);
        check.due("SIZE 0", x.accountWith(0, 0), BAD_VALUE);
        check.due("SIZE 9", x.accountWith(0, 9), BAD_VALUE);
    }

    /** More than 60 readings and changes, a pad, both slots and a full history. */
    private static Told busy() {
        Told x = with(1, 4, 2, 1);
        for (int i = 0; i < 70; i++) {
            x.read(i % 16, i % 23);
        }
        x.save(1);
        x.change(15, 23, 8);
        x.save(0);
        x.account();
        x.change(2, 5, 4);
        x.read(2, 23);
        Look.put(x, "b2:5;c23");
        return x;
    }

    private static void withRefused() {
        EdgesTest.sentence(15, "Returns how many; BAD_VALUE if an argument is out of range.");
        Told x = busy();
        for (int bad : NO_NAMES) {
            check.refused("accountWith(" + bad + ", 4)", x, y -> y.accountWith(bad, 4), BAD_VALUE);
        }
        for (int bad : NO_SIZES) {
            check.refused("accountWith(2, " + bad + ")", x, y -> y.accountWith(2, bad), BAD_VALUE);
        }
        check.refused("accountWith(-1, 0)", x, y -> y.accountWith(-1, 0), BAD_VALUE);
        check.due("the lowest", x.accountWith(0, 1), 4);
        check.due("the highest", x.accountWith(4, 8), 4);
    }

    private static void best(String name, Told x, int names, int size, int messages) {
        check.due(name + ": best(0)", x.best(0), names);
        check.due(name + ": best(1)", x.best(1), size);
        check.due(name + ": best(2)", x.best(2), messages);
        check.due(name + ": accountWith() of them", x.accountWith(x.best(0), x.best(1)), messages);
    }

    /** Some readers read a note, put it back to make room, and another changes it then. */
    private static Told putBackToMakeRoom(int readers) {
        Told x = with(2, 4, 1, 1);
        for (int reader = 0; reader < readers; reader++) {
            x.read(reader, 0);
        }
        for (int reader = 0; reader < readers; reader++) {
            x.read(reader, 1 + reader);
        }
        x.change(15, 0, 1);
        return x;
    }

    private static void best() {
        EdgesTest.sentence(16, "Finds the setting NAMES and SIZE with which accountWith() is the least;");
        for (int readers = 1; readers <= 4; readers++) {
            Told x = putBackToMakeRoom(readers);
            // If all can be named, all are struck, and nobody is called in vain.
            best(readers + " readers", x, readers, 1, readers * 5 + 2);
            check.due("with one name less", x.accountWith(readers - 1, 1), readers * 6 + 2);
        }
        best("more readers than can be named", putBackToMakeRoom(5), 0, 1, 5 * 6 + 2);
    }

    private static void bestOfSeveral() {
        EdgesTest.sentence(16, "of several the lowest NAMES, then the lowest SIZE.");
        Told x = with(3, 7, 3, 0);
        best("an empty account", x, 0, 1, 0);
        x.read(0, 0);
        best("all alike", x, 0, 1, 2);
        x.read(0, 1);
        x.read(1, 0);
        x.change(2, 0, 1);
        best("groups of one as good as names", x, 0, 1, 6 + 4 + 2);
        x = putBackToMakeRoom(2);
        check.due("as good: NAMES 3", x.accountWith(3, 1), x.best(2));
        check.due("as good: NAMES 2, SIZE 8", x.accountWith(2, 8), x.best(2));
        best("the lowest of them", x, 2, 1, 12);
    }

    private static void bestRefused() {
        EdgesTest.sentence(16, "- `what`: 0 NAMES, 1 SIZE, 2 the messages Returns the number; BAD_VALUE if what is out of "
                + "range.");
        Told x = busy();
        for (int bad : new int[] {-1, 3, 4, Integer.MIN_VALUE, Integer.MAX_VALUE}) {
            check.refused("best(" + bad + ")", x, y -> y.best(bad), BAD_VALUE);
        }
        best("an account of two", x, 0, 1, 4);
    }

    private static void startsAnew() {
        EdgesTest.sentence(17, "Starts the account anew: readings and changes from now on are in it.");
        Told x = new Told();
        x.read(0, 0);
        x.change(1, 0, 1);
        check.due("two", x.account(), 2);
        always("none", x, 0);
        check.due("none", x.account(), 0);
        x.read(2, 5);
        always("one reading", x, 2);
        x.change(3, 5, 1);
        ifNamed("and a change", x, 2 + 4);
        x.read(-1, 5);
        x.read(3, 24);
        x.change(3, 6, 10000);
        x.putBack(9, 9);
        ifNamed("nothing that was refused", x, 6);
        Look.put(x, "r9:9;w9:9=1;r16:0");
        x.carryOut();
        ifNamed("those of a text", x, 6 + 2 + 2);
        check.due("four", x.account(), 4);
        check.due("shelves and cards stay", x.ofNote(9, 4), 1 << 9);
    }

    private static void latestSixty() {
        EdgesTest.sentence(17, "(It has the latest 60 of them;");
        Told x = new Told();
        x.read(0, 0);
        for (int i = 2; i <= 60; i++) {
            x.read(1, 1);
        }
        check.due("60 of them", x.again().account(), 60);
        always("with the first", x, 4);
        x.read(1, 1);
        check.due("61 of them", x.again().account(), 60);
        always("without the first", x, 2);
        x.undo();
        check.due("undone", x.again().account(), 60);
        always("with the first again", x, 4);
        x = new Told();
        x.read(0, 0);
        x.change(0, 0, 1);
        for (int i = 3; i <= 60; i++) {
            x.read(1, 1);
        }
        check.due("60 of them: the first is read first", x.accountWith(2, 4), 2 + 2 + 2);
        x.save(1);
        x.read(1, 1);
        check.due("without the reading", x.accountWith(2, 4), 2 + 2);
        x.undo();
        check.due("undone, it is the first again", x.accountWith(2, 4), 2 + 2 + 2);
        x.read(1, 1);
        x.read(1, 1);
        x.restore(1);
        check.due("restored, it is the first again", x.accountWith(2, 4), 2 + 2 + 2);
        x.read(1, 1);
        x.save(0);
        x.account();
        x.read(2, 2);
        x.restore(0);
        check.due("saved without it", x.accountWith(2, 4), 2 + 2);
        x.undo();
        check.due("undone, there is one", x.again().account(), 1);
        check.due("the one", x.accountWith(2, 4), 2);
        x = with(2, 4, 8, 0);
        for (int i = 0; i < 100; i++) {
            x.read(i % 16, i / 16);
            check.due("all different, " + (i + 1), x.accountWith(0, 1), 2 * Math.min(60, i + 1));
        }
        for (int i = 1; i <= 65; i++) {
            x.read(15, 20);
            check.due("the same at the end, " + i, x.accountWith(4, 8), 2 * Math.max(0, 60 - i) + 2);
        }
        check.due("165 of them", x.account(), 60);
        x.read(15, 20);
        check.due("anew after that", x.account(), 1);
    }

    private static void fromTheBeginningOn() {
        EdgesTest.sentence(17, "at first it has all from the beginning on.)");
        for (int uses = 0; uses <= 61; uses++) {
            Told x = new Told();
            for (int i = 0; i < uses; i++) {
                x.change(i % 16, 23 - i % 24, i);
            }
            check.due("after " + uses, x.account(), Math.min(60, uses));
        }
    }

    private static void isAChange() {
        EdgesTest.sentence(17, "This is a change.");
        Told x = new Told();
        check.due("an empty account", x.account(), 0);
        check.due("is a change, too", x.count(12), 1);
        x.read(0, 0);
        x.account();
        check.due("three changes", x.count(12), 3);
        always("none in it", x, 0);
        check.due("undo()", x.undo(), 2);
        always("one again", x, 2);
        check.due("it has it again", x.account(), 1);
    }

    private static void returnsHowMany() {
        EdgesTest.sentence(17, "Returns how many it had.");
        for (int uses : new int[] {0, 1, 2, 59, 60, 61, 119, 120, 121}) {
            Told x = new Told();
            for (int i = 0; i < uses; i++) {
                x.read(3, 3);
            }
            check.due("after " + uses, x.account(), Math.min(60, uses));
            check.due("and once more", x.account(), 0);
            x.read(3, 3);
            check.due("and after one reading", x.account(), 1);
        }
    }
}

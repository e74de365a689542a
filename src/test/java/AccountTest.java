/** Promises 15 to 17: accountWith, best, account. */
public final class AccountTest {
    private static final Check check = new Check();

    public static void main(String[] args) {
        otherNamesAndSizes();
        roomAndForgetAsNow();
        leftOut();
        best();
        fourNames();
        latestSixty();
        latestSixtyInOrder();
        oneAfterTheOther();
        startedAnew();
        ordersAreInIt();
        nothingChanges();
        errors();
        check.end();
    }

    private static void otherNamesAndSizes() {
        Told x = new Told();
        x.read(0, 0);
        x.read(4, 0);
        x.read(8, 0);
        x.change(0, 0, 1);
        check.due("named", x.accountWith(3, 8), 6 + 2 * 2 + 2);
        check.due("as it is", x.accountWith(2, 4), x.count(0));
        check.due("groups of four", x.accountWith(2, 4), 6 + 11 + 2 + 2);
        check.due("groups of one", x.accountWith(0, 1), 6 + 2 * 2 + 2);
        check.due("groups of eight", x.accountWith(0, 8), 6 + 15 + 2 + 2);
        check.due("groups of five", x.accountWith(1, 5), 6 + 9 + 2 + 2);
    }

    private static void roomAndForgetAsNow() {
        Told x = new Told();
        x.read(0, 0);
        x.read(0, 1);
        x.read(0, 0);
        check.due("room for both", x.accountWith(2, 4), 4);
        x.set(ShoutGroups.ROOM, 1);
        check.due("room for one", x.accountWith(2, 4), 6);
        x.set(ShoutGroups.FORGET, 1);
        check.due("room for one, FORGET", x.accountWith(2, 4), 8);
    }

    private static void leftOut() {
        Told x = new Told();
        x.read(0, 0);
        x.putBack(0, 0);
        x.read(0, 0);
        x.recall(0);
        x.change(0, 0, 5);
        x.read(99, 0);
        x.change(0, 0, -1);
        check.due("messages", x.count(0), 8);
        check.due("without putBack() and recall()", x.accountWith(2, 4), 4);
        check.due("account()", x.account(), 3);
    }

    private static void best() {
        Told x = new Told();
        check.due("nothing in it: NAMES", x.best(0), 0);
        check.due("nothing in it: SIZE", x.best(1), 1);
        check.due("nothing in it: messages", x.best(2), 0);
        x.set(ShoutGroups.FORGET, 1);
        x.set(ShoutGroups.ROOM, 1);
        // Reader 0 forgets note 0, which a card that names readers is told, but not one that names groups.
        x.read(0, 0);
        x.read(0, 1);
        x.change(5, 0, 1);
        check.due("NAMES", x.best(0), 1);
        check.due("SIZE", x.best(1), 1);
        check.due("messages", x.best(2), 2 + 3 + 2);
        check.due("groups of one", x.accountWith(0, 1), 2 + 3 + 3);
    }

    private static void fourNames() {
        Told x = new Told();
        x.set(ShoutGroups.FORGET, 1);
        x.set(ShoutGroups.ROOM, 1);
        for (int reader = 0; reader < 4; reader++) {
            x.read(reader, 0);
        }
        for (int reader = 0; reader < 4; reader++) {
            x.read(reader, 1 + reader);
        }
        x.change(5, 0, 1);
        check.due("four can be named, and all four are forgotten", x.best(0), 4);
        check.due("messages", x.best(2), 4 * 2 + 4 * 3 + 2);
        check.due("with three", x.accountWith(3, 1), 4 * 2 + 4 * 3 + 4 + 2);
    }

    private static void useOne(Told x, int i) {
        if (i % 4 == 3) {
            x.change(i * 7 % 16, i * i % 5, i);
        } else {
            x.read(i * 5 % 16, i * i % 5);
        }
    }

    private static void latestSixtyInOrder() {
        Told x = new Told();
        for (int i = 0; i < 150; i++) {
            useOne(x, i);
            Told latest = new Told();
            for (int k = Math.max(0, i - 59); k <= i; k++) {
                useOne(latest, k);
            }
            check.due("the latest after " + i, x.accountWith(2, 4), latest.count(0));
        }
    }

    private static void oneAfterTheOther() {
        Told x = new Told();
        for (int i = 0; i < 40; i++) {
            useOne(x, i);
        }
        int first = x.accountWith(0, 8);
        check.due("again", x.accountWith(0, 8), first);
        x.best(0);
        check.due("after best()", x.accountWith(0, 8), first);
        check.due("as it was", x.accountWith(2, 4), x.count(0));
    }

    private static void latestSixty() {
        Told x = new Told();
        x.read(0, 0);
        for (int i = 0; i < 59; i++) {
            x.read(1, 1);
        }
        check.due("sixty", x.accountWith(2, 4), 4);
        x.read(1, 1);
        check.due("the first one is dropped", x.accountWith(2, 4), 2);
        x.change(2, 5, 1);
        check.due("one more", x.accountWith(2, 4), 4);
        for (int i = 0; i < 60; i++) {
            x.read(1, 1);
        }
        check.due("all of them are dropped", x.accountWith(2, 4), 2);
        check.due("account()", x.account(), 60);
    }

    private static void startedAnew() {
        Told x = new Told();
        x.read(0, 0);
        x.change(1, 0, 1);
        String shelves = x.ofReader(1, 0) + " " + x.count(0);
        check.due("account()", x.account(), 2);
        check.due("empty", x.accountWith(2, 4), 0);
        check.due("account() again", x.account(), 0);
        check.due("the rest stays", x.ofReader(1, 0) + " " + x.count(0), shelves);
        check.due("both are changes", x.count(12), 4);
        x.read(1, 0);
        check.due("from empty shelves on", x.accountWith(2, 4), 2);
        x.undo();
        x.undo();
        x.undo();
        check.due("undone", x.account(), 2);
    }

    private static void ordersAreInIt() {
        Told x = new Told();
        Look.put(x, "r0:0;w1:0=3;c0;r2:0;b2:0;r16:0");
        check.due("carryOut()", x.carryOut(), 5);
        check.due("account()", x.account(), 3);
    }

    private static void nothingChanges() {
        Told x = new Told();
        x.read(0, 0);
        x.change(1, 1, 1);
        String before = Look.everything(x);
        x.best(0);
        x.accountWith(0, 8);
        check.due("accountWith() and best()", Look.everything(x), before);
    }

    private static void errors() {
        Told x = new Told();
        for (int bad : new int[] {-1, 5, Integer.MIN_VALUE, Integer.MAX_VALUE}) {
            check.due("accountWith(" + bad + ", 1)", x.accountWith(bad, 1), ShoutGroups.BAD_VALUE);
        }
        for (int bad : new int[] {-1, 0, 9, Integer.MIN_VALUE, Integer.MAX_VALUE}) {
            check.due("accountWith(0, " + bad + ")", x.accountWith(0, bad), ShoutGroups.BAD_VALUE);
        }
        for (int bad : new int[] {-1, 3, Integer.MIN_VALUE, Integer.MAX_VALUE}) {
            check.due("best(" + bad + ")", x.best(bad), ShoutGroups.BAD_VALUE);
        }
        check.due("accountWith(0, 1)", x.accountWith(0, 1), 0);
        check.due("accountWith(4, 8)", x.accountWith(4, 8), 0);
    }
}
